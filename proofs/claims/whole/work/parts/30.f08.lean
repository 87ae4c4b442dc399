theorem dX2_addNumber_0 : decode cX2_addNumber 0 = .ok (.sipush 10000, 3) := by decide +kernel
theorem dX2_addNumber_3 : decode cX2_addNumber 3 = .ok (.istore_n 2, 1) := by decide +kernel
theorem dX2_addNumber_4 : decode cX2_addNumber 4 = .ok (.iload_n 2, 1) := by decide +kernel
theorem dX2_addNumber_5 : decode cX2_addNumber 5 = .ok (.iconst 1, 1) := by decide +kernel
theorem dX2_addNumber_6 : decode cX2_addNumber 6 = .ok (.if_icmp .lt 34, 3) := by decide +kernel
theorem dX2_addNumber_9 : decode cX2_addNumber 9 = .ok (.iload_n 1, 1) := by decide +kernel
theorem dX2_addNumber_10 : decode cX2_addNumber 10 = .ok (.iload_n 2, 1) := by decide +kernel
theorem dX2_addNumber_11 : decode cX2_addNumber 11 = .ok (.if_icmp .ge 8, 3) := by decide +kernel
theorem dX2_addNumber_14 : decode cX2_addNumber 14 = .ok (.iload_n 2, 1) := by decide +kernel
theorem dX2_addNumber_15 : decode cX2_addNumber 15 = .ok (.iconst 1, 1) := by decide +kernel
theorem dX2_addNumber_16 : decode cX2_addNumber 16 = .ok (.if_icmp .ne 16, 3) := by decide +kernel
theorem dX2_addNumber_19 : decode cX2_addNumber 19 = .ok (.aload_n 0, 1) := by decide +kernel
theorem dX2_addNumber_20 : decode cX2_addNumber 20 = .ok (.bipush 48, 2) := by decide +kernel
theorem dX2_addNumber_22 : decode cX2_addNumber 22 = .ok (.iload_n 1, 1) := by decide +kernel
theorem dX2_addNumber_23 : decode cX2_addNumber 23 = .ok (.iload_n 2, 1) := by decide +kernel
theorem dX2_addNumber_24 : decode cX2_addNumber 24 = .ok (.idiv, 1) := by decide +kernel
theorem dX2_addNumber_25 : decode cX2_addNumber 25 = .ok (.bipush 10, 2) := by decide +kernel
theorem dX2_addNumber_27 : decode cX2_addNumber 27 = .ok (.irem, 1) := by decide +kernel
theorem dX2_addNumber_28 : decode cX2_addNumber 28 = .ok (.iadd, 1) := by decide +kernel
theorem dX2_addNumber_29 : decode cX2_addNumber 29 = .ok (.invokevirtual 26, 3) := by decide +kernel
theorem dX2_addNumber_32 : decode cX2_addNumber 32 = .ok (.iload_n 2, 1) := by decide +kernel
theorem dX2_addNumber_33 : decode cX2_addNumber 33 = .ok (.bipush 10, 2) := by decide +kernel
theorem dX2_addNumber_35 : decode cX2_addNumber 35 = .ok (.idiv, 1) := by decide +kernel
theorem dX2_addNumber_36 : decode cX2_addNumber 36 = .ok (.istore_n 2, 1) := by decide +kernel
theorem dX2_addNumber_37 : decode cX2_addNumber 37 = .ok (.goto (-33), 3) := by decide +kernel
theorem dX2_addNumber_40 : decode cX2_addNumber 40 = .ok (.return_, 1) := by decide +kernel
theorem e_X2_addNumber_19 {X : gk_X} {F : Nat} {k4 : Nat → Int32 → Int32 → gk_S → Option (Unit × gk_S)} (hk4 : ∀ (l0 : Nat) (l1 : Int32) (l2 : Int32) (S : gk_S) (r : (Unit × gk_S)), k4 l0 l1 l2 S = some r → EvW X m_X2_addNumber 2 0 0 4 [some (.ref l0), some (.int l1), some (.int l2)] [] S (qRU r)) {l0 : Nat} {l1 : Int32} {l2 : Int32} {S : gk_S} {r : (Unit × gk_S)} (h0 : f_X2_addNumber_19 F k4 l0 l1 l2 S = some r) : EvW X m_X2_addNumber 2 0 0 19 [some (.ref l0), some (.int l1), some (.int l2)] [] S (qRU r) := by
  unfold f_X2_addNumber_19 at h0
  refine ev_aload_n (pc := 19) (i := 0) rfl rfl rfl dX2_addNumber_19 ?_
  refine ev_bipush (pc := 20) (v := 48) (by decide) dX2_addNumber_20 ?_
  refine ev_iload_n (pc := 22) (i := 1) rfl rfl dX2_addNumber_22 ?_
  refine ev_iload_n (pc := 23) (i := 2) rfl rfl dX2_addNumber_23 ?_
  obtain ⟨g5, h6⟩ := qk_el h0; clear h0
  refine ev_idiv (pc := 24) (nzI_el g5) dX2_addNumber_24 ?_
  refine ev_bipush (pc := 25) (v := 10) (by decide) dX2_addNumber_25 ?_
  refine ev_irem (pc := 27) (by decide) dX2_addNumber_27 ?_
  refine ev_iadd (pc := 28)  dX2_addNumber_28 ?_
  obtain ⟨g7, h8⟩ := qk_el h6; clear h6
  obtain ⟨x9, S10, e11, h12⟩ := qc_el h8; clear h8
  refine xv_callV (pc := 29) (st := []) (as := [.int (48 + ((l1 / l2) - (l1 / l2) / 10 * 10))]) (v := none) (S' := S10) ok_X2_add (e_X2_add e11) (isb_el g7) (by decide) rfl (Nat.le_of_ble_eq_true rfl) rfl gw_337 dX2_addNumber_29 ?_
  refine ev_iload_n (pc := 32) (i := 2) rfl rfl dX2_addNumber_32 ?_
  refine ev_bipush (pc := 33) (v := 10) (by decide) dX2_addNumber_33 ?_
  refine ev_idiv (pc := 35) (by decide) dX2_addNumber_35 ?_
  refine ev_istore_n (pc := 36) (L' := [some (.ref l0), some (.int l1), some (.int (l2 / 10))]) (i := 2) rfl (by decide) rfl rfl dX2_addNumber_36 ?_
  refine ev_goto (pc := 37) (tgt := 4) (by decide) dX2_addNumber_37 ?_
  exact ev_weak (qL_s (qL_s (qL_s qL_nil))) (hk4 _ _ _ _ _ h12)
theorem e_X2_addNumber_4 {X : gk_X} {F : Nat} : ∀ (n : Nat) (l0 : Nat) (l1 : Int32) (l2 : Int32) (S : gk_S) (r : (Unit × gk_S)), f_X2_addNumber_4 F n l0 l1 l2 S = some r → EvW X m_X2_addNumber 2 0 0 4 [some (.ref l0), some (.int l1), some (.int l2)] [] S (qRU r) := by
  intro n
  induction n with
  | zero => intro l0 l1 l2 S r h0; rw [f_X2_addNumber_4] at h0; cases h0
  | succ n ih =>
    intro l0 l1 l2 S r h0; rw [f_X2_addNumber_4] at h0
    refine ev_iload_n (pc := 4) (i := 2) rfl rfl dX2_addNumber_4 ?_
    refine ev_iconst (pc := 5) (v := 1) (by decide) dX2_addNumber_5 ?_
    refine ev_ic_lt (pc := 6) (tgt := 40) (by decide) dX2_addNumber_6 (fun c1 => ?_) (fun c1 => ?_)
    · replace h0 := qi_t h0 c1
      exact ev_return (pc := 40) rfl (qRU_eq h0) dX2_addNumber_40
    · replace h0 := qi_f h0 c1
      refine ev_iload_n (pc := 9) (i := 1) rfl rfl dX2_addNumber_9 ?_
      refine ev_iload_n (pc := 10) (i := 2) rfl rfl dX2_addNumber_10 ?_
      refine ev_ic_ge (pc := 11) (tgt := 19) (by decide) dX2_addNumber_11 (fun c3 => ?_) (fun c3 => ?_)
      · replace h0 := qi_t h0 c3
        exact ev_weak (qL_s (qL_s (qL_s qL_nil))) (e_X2_addNumber_19 ih h0)
      · replace h0 := qi_f h0 c3
        refine ev_iload_n (pc := 14) (i := 2) rfl rfl dX2_addNumber_14 ?_
        refine ev_iconst (pc := 15) (v := 1) (by decide) dX2_addNumber_15 ?_
        refine ev_ic_ne (pc := 16) (tgt := 32) (by decide) dX2_addNumber_16 (fun c13 => ?_) (fun c13 => ?_)
        · replace h0 := qi_f h0 c13
          refine ev_iload_n (pc := 32) (i := 2) rfl rfl dX2_addNumber_32 ?_
          refine ev_bipush (pc := 33) (v := 10) (by decide) dX2_addNumber_33 ?_
          refine ev_idiv (pc := 35) (by decide) dX2_addNumber_35 ?_
          refine ev_istore_n (pc := 36) (L' := [some (.ref l0), some (.int l1), some (.int (l2 / 10))]) (i := 2) rfl (by decide) rfl rfl dX2_addNumber_36 ?_
          refine ev_goto (pc := 37) (tgt := 4) (by decide) dX2_addNumber_37 ?_
          exact (ev_weak (qL_s (qL_s (qL_s qL_nil))) (ih _ _ _ _ _ h0))
        · replace h0 := qi_t h0 c13
          exact ev_weak (qL_s (qL_s (qL_s qL_nil))) (e_X2_addNumber_19 ih h0)
theorem e_X2_addNumber {X : gk_X} {F : Nat} {S : gk_S} {a : Nat} {p0 : Int32} {r : (Unit × gk_S)} (h0 : f_X2_addNumber F S a p0 = some r) : EvM X m_X2_addNumber 2 0 0 [.ref a, .int p0] S (qRU r) := by
  unfold f_X2_addNumber at h0
  refine ev_method (by decide +kernel) rfl rfl (Nat.le_of_ble_eq_true rfl) ?_
  show EvW X m_X2_addNumber 2 0 0 0 [some (.ref a), some (.int p0), none] [] S _
  refine ev_sipush (pc := 0) (v := 10000) (by decide) dX2_addNumber_0 ?_
  refine ev_istore_n (pc := 3) (L' := [some (.ref a), some (.int p0), some (.int 10000)]) (i := 2) rfl (by decide) rfl rfl dX2_addNumber_3 ?_
  exact ev_weak (qL_s (qL_s (qL_s qL_nil))) (e_X2_addNumber_4 F _ _ _ _ _ h0)
theorem dX1_putValue_0 : decode cX1_putValue 0 = .ok (.iload_n 2, 1) := by decide +kernel
theorem dX1_putValue_1 : decode cX1_putValue 1 = .ok (.iconst 2, 1) := by decide +kernel
theorem dX1_putValue_2 : decode cX1_putValue 2 = .ok (.if_icmp .eq 15, 3) := by decide +kernel
theorem dX1_putValue_5 : decode cX1_putValue 5 = .ok (.iload_n 2, 1) := by decide +kernel
theorem dX1_putValue_6 : decode cX1_putValue 6 = .ok (.iconst 3, 1) := by decide +kernel
theorem dX1_putValue_7 : decode cX1_putValue 7 = .ok (.if_icmp .eq 10, 3) := by decide +kernel
theorem dX1_putValue_10 : decode cX1_putValue 10 = .ok (.aload_n 3, 1) := by decide +kernel
theorem dX1_putValue_11 : decode cX1_putValue 11 = .ok (.lload_n 0, 1) := by decide +kernel
theorem dX1_putValue_12 : decode cX1_putValue 12 = .ok (.l2i, 1) := by decide +kernel
theorem dX1_putValue_13 : decode cX1_putValue 13 = .ok (.invokevirtual 78, 3) := by decide +kernel
theorem dX1_putValue_16 : decode cX1_putValue 16 = .ok (.return_, 1) := by decide +kernel
theorem dX1_putValue_17 : decode cX1_putValue 17 = .ok (.bipush 24, 2) := by decide +kernel
theorem dX1_putValue_19 : decode cX1_putValue 19 = .ok (.istore 4, 2) := by decide +kernel
theorem dX1_putValue_21 : decode cX1_putValue 21 = .ok (.iload 4, 2) := by decide +kernel
theorem dX1_putValue_23 : decode cX1_putValue 23 = .ok (.ifCond .lt 33, 3) := by decide +kernel
theorem dX1_putValue_26 : decode cX1_putValue 26 = .ok (.aload_n 3, 1) := by decide +kernel
theorem dX1_putValue_27 : decode cX1_putValue 27 = .ok (.lload_n 0, 1) := by decide +kernel
theorem dX1_putValue_28 : decode cX1_putValue 28 = .ok (.iload 4, 2) := by decide +kernel
theorem dX1_putValue_30 : decode cX1_putValue 30 = .ok (.lshr, 1) := by decide +kernel
theorem dX1_putValue_31 : decode cX1_putValue 31 = .ok (.ldc2_w 81, 3) := by decide +kernel
theorem dX1_putValue_34 : decode cX1_putValue 34 = .ok (.land, 1) := by decide +kernel
theorem dX1_putValue_35 : decode cX1_putValue 35 = .ok (.l2i, 1) := by decide +kernel
theorem dX1_putValue_36 : decode cX1_putValue 36 = .ok (.invokevirtual 78, 3) := by decide +kernel
theorem dX1_putValue_39 : decode cX1_putValue 39 = .ok (.iload 4, 2) := by decide +kernel
theorem dX1_putValue_41 : decode cX1_putValue 41 = .ok (.ifCond .le 9, 3) := by decide +kernel
theorem dX1_putValue_44 : decode cX1_putValue 44 = .ok (.aload_n 3, 1) := by decide +kernel
theorem dX1_putValue_45 : decode cX1_putValue 45 = .ok (.bipush 46, 2) := by decide +kernel
theorem dX1_putValue_47 : decode cX1_putValue 47 = .ok (.invokevirtual 53, 3) := by decide +kernel
theorem dX1_putValue_50 : decode cX1_putValue 50 = .ok (.iinc 4 (-8), 3) := by decide +kernel
theorem dX1_putValue_53 : decode cX1_putValue 53 = .ok (.goto (-32), 3) := by decide +kernel
theorem dX1_putValue_56 : decode cX1_putValue 56 = .ok (.return_, 1) := by decide +kernel
theorem e_X1_putValue_21 {X : gk_X} {F : Nat} : ∀ (n : Nat) (l0 : Int64) (l3 : Nat) (l4 : Int32) (S : gk_S) (r : (Unit × gk_S)), f_X1_putValue_21 F n l0 l3 l4 S = some r → EvW X m_X1_putValue 3 0 0 21 [some (.long l0), none, none, some (.ref l3), some (.int l4)] [] S (qRU r) := by
  intro n
  induction n with
  | zero => intro l0 l3 l4 S r h0; rw [f_X1_putValue_21] at h0; cases h0
  | succ n ih =>
    intro l0 l3 l4 S r h0; rw [f_X1_putValue_21] at h0
    refine ev_iload (pc := 21) (i := 4) rfl dX1_putValue_21 ?_
    refine ev_if_lt (pc := 23) (tgt := 56) (by decide) dX1_putValue_23 (fun c3 => ?_) (fun c3 => ?_)
    · replace h0 := qi_t h0 c3
      exact ev_return (pc := 56) rfl (qRU_eq h0) dX1_putValue_56
    · replace h0 := qi_f h0 c3
      refine ev_aload_n (pc := 26) (i := 3) rfl rfl rfl dX1_putValue_26 ?_
      refine ev_lload_n (pc := 27) (i := 0) rfl rfl dX1_putValue_27 ?_
      refine ev_iload (pc := 28) (i := 4) rfl dX1_putValue_28 ?_
      refine ev_lshr (pc := 30)  dX1_putValue_30 ?_
      refine ev_ldc2 (pc := 31) (v := 255) gw_755 dX1_putValue_31 ?_
      refine ev_land (pc := 34)  dX1_putValue_34 ?_
      refine ev_l2i (pc := 35)  dX1_putValue_35 ?_
      obtain ⟨x5, e6, h7⟩ := qv_el h0; clear h0
      refine xv_top e6 ?_
      obtain ⟨g8, h9⟩ := qk_el h7; clear h7
      obtain ⟨x10, S11, e12, h13⟩ := qc_el h9; clear h9
      refine xv_callV (pc := 36) (st := []) (as := [.int x5]) (v := none) (S' := S11) ok_X2_addNumber (e_X2_addNumber e12) (isb_el g8) (by decide) rfl (Nat.le_of_ble_eq_true rfl) rfl gw_751 dX1_putValue_36 ?_
      refine ev_iload (pc := 39) (i := 4) rfl dX1_putValue_39 ?_
      refine ev_if_le (pc := 41) (tgt := 50) (by decide) dX1_putValue_41 (fun c14 => ?_) (fun c14 => ?_)
      · replace h13 := qi_t h13 c14
        refine ev_iinc (pc := 50) (L' := [some (.long l0), none, none, some (.ref l3), some (.int (l4 + (-8)))]) (i := 4) (v := (l4 + (-8))) rfl (congrArg (l4 + ·) (by decide)) (by decide) rfl rfl dX1_putValue_50 ?_
        refine ev_goto (pc := 53) (tgt := 21) (by decide) dX1_putValue_53 ?_
        exact (ev_weak (qL_s (qL_n (qL_n (qL_s (qL_s qL_nil))))) (ih _ _ _ _ _ h13))
      · replace h13 := qi_f h13 c14
        refine ev_aload_n (pc := 44) (i := 3) rfl rfl rfl dX1_putValue_44 ?_
        refine ev_bipush (pc := 45) (v := 46) (by decide) dX1_putValue_45 ?_
        obtain ⟨g16, h17⟩ := qk_el h13; clear h13
        obtain ⟨x18, S19, e20, h21⟩ := qc_el h17; clear h17
        refine xv_callV (pc := 47) (st := []) (as := [.int 46]) (v := none) (S' := S19) ok_X2_add (e_X2_add e20) (isb_el g16) (by decide) rfl (Nat.le_of_ble_eq_true rfl) rfl gw_727 dX1_putValue_47 ?_
        refine ev_iinc (pc := 50) (L' := [some (.long l0), none, none, some (.ref l3), some (.int (l4 + (-8)))]) (i := 4) (v := (l4 + (-8))) rfl (congrArg (l4 + ·) (by decide)) (by decide) rfl rfl dX1_putValue_50 ?_
        refine ev_goto (pc := 53) (tgt := 21) (by decide) dX1_putValue_53 ?_
        exact (ev_weak (qL_s (qL_n (qL_n (qL_s (qL_s qL_nil))))) (ih _ _ _ _ _ h21))
theorem e_X1_putValue {X : gk_X} {F : Nat} {S : gk_S} {p0 : Int64} {p1 : Int32} {p2 : Nat} {r : (Unit × gk_S)} (h0 : f_X1_putValue F S p0 p1 p2 = some r) : EvM X m_X1_putValue 3 0 0 [.long p0, .int p1, .ref p2] S (qRU r) := by
  unfold f_X1_putValue at h0
  refine ev_method (by decide +kernel) rfl rfl (Nat.le_of_ble_eq_true rfl) ?_
  show EvW X m_X1_putValue 3 0 0 0 [some (.long p0), none, some (.int p1), some (.ref p2), none] [] S _
  refine ev_iload_n (pc := 0) (i := 2) rfl rfl dX1_putValue_0 ?_
  refine ev_iconst (pc := 1) (v := 2) (by decide) dX1_putValue_1 ?_
  refine ev_ic_eq (pc := 2) (tgt := 17) (by decide) dX1_putValue_2 (fun c1 => ?_) (fun c1 => ?_)
  · replace h0 := qi_t h0 c1
    refine ev_bipush (pc := 17) (v := 24) (by decide) dX1_putValue_17 ?_
    refine ev_istore (pc := 19) (L' := [some (.long p0), none, some (.int p1), some (.ref p2), some (.int 24)]) (i := 4) (by decide) rfl rfl dX1_putValue_19 ?_
    exact ev_weak (qL_s (qL_n (qL_n (qL_s (qL_s qL_nil))))) (e_X1_putValue_21 F _ _ _ _ _ h0)
  · replace h0 := qi_f h0 c1
    refine ev_iload_n (pc := 5) (i := 2) rfl rfl dX1_putValue_5 ?_
    refine ev_iconst (pc := 6) (v := 3) (by decide) dX1_putValue_6 ?_
    refine ev_ic_eq (pc := 7) (tgt := 17) (by decide) dX1_putValue_7 (fun c22 => ?_) (fun c22 => ?_)
    · replace h0 := qi_t h0 c22
      refine ev_bipush (pc := 17) (v := 24) (by decide) dX1_putValue_17 ?_
      refine ev_istore (pc := 19) (L' := [some (.long p0), none, some (.int p1), some (.ref p2), some (.int 24)]) (i := 4) (by decide) rfl rfl dX1_putValue_19 ?_
      exact ev_weak (qL_s (qL_n (qL_n (qL_s (qL_s qL_nil))))) (e_X1_putValue_21 F _ _ _ _ _ h0)
    · replace h0 := qi_f h0 c22
      refine ev_aload_n (pc := 10) (i := 3) rfl rfl rfl dX1_putValue_10 ?_
      refine ev_lload_n (pc := 11) (i := 0) rfl rfl dX1_putValue_11 ?_
      refine ev_l2i (pc := 12)  dX1_putValue_12 ?_
      obtain ⟨g24, h25⟩ := qk_el h0; clear h0
      obtain ⟨x26, S27, e28, h29⟩ := qc_el h25; clear h25
      refine xv_callV (pc := 13) (st := []) (as := [.int ((p0 : Int64).toInt32)]) (v := none) (S' := S27) ok_X2_addNumber (e_X2_addNumber e28) (isb_el g24) (by decide) rfl (Nat.le_of_ble_eq_true rfl) rfl gw_751 dX1_putValue_13 ?_
      exact ev_return (pc := 16) rfl (qRU_eq h29) dX1_putValue_16
theorem dX1_putPart_0 : decode cX1_putPart 0 = .ok (.iload_n 1, 1) := by decide +kernel
theorem dX1_putPart_1 : decode cX1_putPart 1 = .ok (.ifCond .lt 9, 3) := by decide +kernel
theorem dX1_putPart_4 : decode cX1_putPart 4 = .ok (.iload_n 1, 1) := by decide +kernel
theorem dX1_putPart_5 : decode cX1_putPart 5 = .ok (.bipush 6, 2) := by decide +kernel
theorem dX1_putPart_7 : decode cX1_putPart 7 = .ok (.if_icmp .lt 9, 3) := by decide +kernel
theorem dX1_putPart_10 : decode cX1_putPart 10 = .ok (.aload_n 0, 1) := by decide +kernel
theorem dX1_putPart_11 : decode cX1_putPart 11 = .ok (.aload_n 2, 1) := by decide +kernel
theorem dX1_putPart_12 : decode cX1_putPart 12 = .ok (.invokestatic 64, 3) := by decide +kernel
theorem dX1_putPart_15 : decode cX1_putPart 15 = .ok (.return_, 1) := by decide +kernel
theorem dX1_putPart_16 : decode cX1_putPart 16 = .ok (.aload_n 0, 1) := by decide +kernel
theorem dX1_putPart_17 : decode cX1_putPart 17 = .ok (.getfield 67, 3) := by decide +kernel
theorem dX1_putPart_20 : decode cX1_putPart 20 = .ok (.iload_n 1, 1) := by decide +kernel
theorem dX1_putPart_21 : decode cX1_putPart 21 = .ok (.laload, 1) := by decide +kernel
theorem dX1_putPart_22 : decode cX1_putPart 22 = .ok (.iload_n 1, 1) := by decide +kernel
theorem dX1_putPart_23 : decode cX1_putPart 23 = .ok (.aload_n 2, 1) := by decide +kernel
theorem dX1_putPart_24 : decode cX1_putPart 24 = .ok (.invokestatic 71, 3) := by decide +kernel
theorem dX1_putPart_27 : decode cX1_putPart 27 = .ok (.aload_n 0, 1) := by decide +kernel
theorem dX1_putPart_28 : decode cX1_putPart 28 = .ok (.getfield 75, 3) := by decide +kernel
theorem dX1_putPart_31 : decode cX1_putPart 31 = .ok (.iload_n 1, 1) := by decide +kernel
theorem dX1_putPart_32 : decode cX1_putPart 32 = .ok (.laload, 1) := by decide +kernel
theorem dX1_putPart_33 : decode cX1_putPart 33 = .ok (.aload_n 0, 1) := by decide +kernel
theorem dX1_putPart_34 : decode cX1_putPart 34 = .ok (.getfield 67, 3) := by decide +kernel
theorem dX1_putPart_37 : decode cX1_putPart 37 = .ok (.iload_n 1, 1) := by decide +kernel
theorem dX1_putPart_38 : decode cX1_putPart 38 = .ok (.laload, 1) := by decide +kernel
theorem dX1_putPart_39 : decode cX1_putPart 39 = .ok (.lcmp, 1) := by decide +kernel
theorem dX1_putPart_40 : decode cX1_putPart 40 = .ok (.ifCond .eq 20, 3) := by decide +kernel
theorem dX1_putPart_43 : decode cX1_putPart 43 = .ok (.aload_n 2, 1) := by decide +kernel
theorem dX1_putPart_44 : decode cX1_putPart 44 = .ok (.bipush 45, 2) := by decide +kernel
theorem dX1_putPart_46 : decode cX1_putPart 46 = .ok (.invokevirtual 53, 3) := by decide +kernel
theorem dX1_putPart_49 : decode cX1_putPart 49 = .ok (.aload_n 0, 1) := by decide +kernel
theorem dX1_putPart_50 : decode cX1_putPart 50 = .ok (.getfield 75, 3) := by decide +kernel
theorem dX1_putPart_53 : decode cX1_putPart 53 = .ok (.iload_n 1, 1) := by decide +kernel
theorem dX1_putPart_54 : decode cX1_putPart 54 = .ok (.laload, 1) := by decide +kernel
theorem dX1_putPart_55 : decode cX1_putPart 55 = .ok (.iload_n 1, 1) := by decide +kernel
theorem dX1_putPart_56 : decode cX1_putPart 56 = .ok (.aload_n 2, 1) := by decide +kernel
theorem dX1_putPart_57 : decode cX1_putPart 57 = .ok (.invokestatic 71, 3) := by decide +kernel
theorem dX1_putPart_60 : decode cX1_putPart 60 = .ok (.return_, 1) := by decide +kernel
theorem e_X1_putPart_10 {X : gk_X} {F : Nat} {l0 : Nat} {l2 : Nat} {S : gk_S} {r : (Unit × gk_S)} (h0 : f_X1_putPart_10 F l0 l2 S = some r) : EvW X m_X1_putPart 7 0 0 10 [some (.ref l0), none, some (.ref l2)] [] S (qRU r) := by
  unfold f_X1_putPart_10 at h0
  refine ev_aload_n (pc := 10) (i := 0) rfl rfl rfl dX1_putPart_10 ?_
  refine ev_aload_n (pc := 11) (i := 2) rfl rfl rfl dX1_putPart_11 ?_
  obtain ⟨x3, S4, e5, h6⟩ := qc_el h0; clear h0
  refine xv_callS (pc := 12) (st := []) (as := [.ref l0, .ref l2]) (v := none) (S' := S4) ok_X1_putStates (e_X1_putStates e5) (by decide) rfl (Nat.le_of_ble_eq_true rfl) rfl gw_740 dX1_putPart_12 ?_
  exact ev_return (pc := 15) rfl (qRU_eq h6) dX1_putPart_15
theorem e_X1_putPart {X : gk_X} {F : Nat} {S : gk_S} {p0 : Nat} {p1 : Int32} {p2 : Nat} {r : (Unit × gk_S)} (h0 : f_X1_putPart F S p0 p1 p2 = some r) : EvM X m_X1_putPart 7 0 0 [.ref p0, .int p1, .ref p2] S (qRU r) := by
  unfold f_X1_putPart at h0
  refine ev_method (by decide +kernel) rfl rfl (Nat.le_of_ble_eq_true rfl) ?_
  show EvW X m_X1_putPart 7 0 0 0 [some (.ref p0), some (.int p1), some (.ref p2)] [] S _
  refine ev_iload_n (pc := 0) (i := 1) rfl rfl dX1_putPart_0 ?_
  refine ev_if_lt (pc := 1) (tgt := 10) (by decide) dX1_putPart_1 (fun c1 => ?_) (fun c1 => ?_)
  · replace h0 := qi_t h0 c1
    exact ev_weak (qL_s (qL_n (qL_s qL_nil))) (e_X1_putPart_10 h0)
  · replace h0 := qi_f h0 c1
    refine ev_iload_n (pc := 4) (i := 1) rfl rfl dX1_putPart_4 ?_
    refine ev_bipush (pc := 5) (v := 6) (by decide) dX1_putPart_5 ?_
    refine ev_ic_lt (pc := 7) (tgt := 16) (by decide) dX1_putPart_7 (fun c7 => ?_) (fun c7 => ?_)
    · replace h0 := qi_t h0 c7
      refine ev_aload_n (pc := 16) (i := 0) rfl rfl rfl dX1_putPart_16 ?_
      obtain ⟨g9, h10⟩ := qk_el h0; clear h0
      obtain ⟨b11, e12, h13⟩ := qP_el h10; clear h10
      refine xv_getP (pc := 17) fn_300 (isb_el g9) e12 gw_65 dX1_putPart_17 ?_
      refine ev_iload_n (pc := 20) (i := 1) rfl rfl dX1_putPart_20 ?_
      obtain ⟨g14, h15⟩ := qk_el h13; clear h13
      obtain ⟨g16, h17⟩ := qk_el h15; clear h15
      obtain ⟨x18, e19, h20⟩ := qv_el h17; clear h17
      refine yv_lald (pc := 21) (isb_el g14) (inb_el g16) e19 dX1_putPart_21 ?_
      refine ev_iload_n (pc := 22) (i := 1) rfl rfl dX1_putPart_22 ?_
      refine ev_aload_n (pc := 23) (i := 2) rfl rfl rfl dX1_putPart_23 ?_
      obtain ⟨x21, S22, e23, h24⟩ := qc_el h20; clear h20
      refine xv_callS (pc := 24) (st := []) (as := [.long x18, .int p1, .ref p2]) (v := none) (S' := S22) ok_X1_putValue (e_X1_putValue e23) (by decide) rfl (Nat.le_of_ble_eq_true rfl) rfl gw_748 dX1_putPart_24 ?_
      refine ev_aload_n (pc := 27) (i := 0) rfl rfl rfl dX1_putPart_27 ?_
      obtain ⟨g25, h26⟩ := qk_el h24; clear h24
      obtain ⟨b27, e28, h29⟩ := qP_el h26; clear h26
      refine xv_getP (pc := 28) fn_301 (isb_el g25) e28 gw_68 dX1_putPart_28 ?_
      refine ev_iload_n (pc := 31) (i := 1) rfl rfl dX1_putPart_31 ?_
      obtain ⟨g30, h31⟩ := qk_el h29; clear h29
      obtain ⟨g32, h33⟩ := qk_el h31; clear h31
      obtain ⟨x34, e35, h36⟩ := qv_el h33; clear h33
      refine yv_lald (pc := 32) (isb_el g30) (inb_el g32) e35 dX1_putPart_32 ?_
      refine ev_aload_n (pc := 33) (i := 0) rfl rfl rfl dX1_putPart_33 ?_
      obtain ⟨b37, e38, h39⟩ := qP_el h36; clear h36
      refine xv_getP (pc := 34) fn_300 (isb_el g25) e38 gw_65 dX1_putPart_34 ?_
      refine ev_iload_n (pc := 37) (i := 1) rfl rfl dX1_putPart_37 ?_
      obtain ⟨g40, h41⟩ := qk_el h39; clear h39
      obtain ⟨g42, h43⟩ := qk_el h41; clear h41
      obtain ⟨x44, e45, h46⟩ := qv_el h43; clear h43
      refine yv_lald (pc := 38) (isb_el g40) (inb_el g42) e45 dX1_putPart_38 ?_
      refine ev_lcmp (pc := 39)  dX1_putPart_39 ?_
      refine ev_if_eq (pc := 40) (tgt := 60) (by decide) dX1_putPart_40 (fun c47 => ?_) (fun c47 => ?_)
      · replace h46 := qi_t h46 (lc_eq c47)
        exact ev_return (pc := 60) rfl (qRU_eq h46) dX1_putPart_60
      · replace h46 := qi_f h46 (lc_eqN c47)
        refine ev_aload_n (pc := 43) (i := 2) rfl rfl rfl dX1_putPart_43 ?_
        refine ev_bipush (pc := 44) (v := 45) (by decide) dX1_putPart_44 ?_
        obtain ⟨g49, h50⟩ := qk_el h46; clear h46
        obtain ⟨x51, S52, e53, h54⟩ := qc_el h50; clear h50
        refine xv_callV (pc := 46) (st := []) (as := [.int 45]) (v := none) (S' := S52) ok_X2_add (e_X2_add e53) (isb_el g49) (by decide) rfl (Nat.le_of_ble_eq_true rfl) rfl gw_727 dX1_putPart_46 ?_
        refine ev_aload_n (pc := 49) (i := 0) rfl rfl rfl dX1_putPart_49 ?_
        obtain ⟨g55, h56⟩ := qk_el h54; clear h54
        obtain ⟨b57, e58, h59⟩ := qP_el h56; clear h56
        refine xv_getP (pc := 50) fn_301 (isb_el g55) e58 gw_68 dX1_putPart_50 ?_
        refine ev_iload_n (pc := 53) (i := 1) rfl rfl dX1_putPart_53 ?_
        obtain ⟨g60, h61⟩ := qk_el h59; clear h59
        obtain ⟨g62, h63⟩ := qk_el h61; clear h61
        obtain ⟨x64, e65, h66⟩ := qv_el h63; clear h63
        refine yv_lald (pc := 54) (isb_el g60) (inb_el g62) e65 dX1_putPart_54 ?_
        refine ev_iload_n (pc := 55) (i := 1) rfl rfl dX1_putPart_55 ?_
        refine ev_aload_n (pc := 56) (i := 2) rfl rfl rfl dX1_putPart_56 ?_
        obtain ⟨x67, S68, e69, h70⟩ := qc_el h66; clear h66
        refine xv_callS (pc := 57) (st := []) (as := [.long x64, .int p1, .ref p2]) (v := none) (S' := S68) ok_X1_putValue (e_X1_putValue e69) (by decide) rfl (Nat.le_of_ble_eq_true rfl) rfl gw_748 dX1_putPart_57 ?_
        exact ev_return (pc := 60) rfl (qRU_eq h70) dX1_putPart_60
    · replace h0 := qi_f h0 c7
      exact ev_weak (qL_s (qL_n (qL_s qL_nil))) (e_X1_putPart_10 h0)
theorem dX1_putRule_0 : decode cX1_putRule 0 = .ok (.aload_n 1, 1) := by decide +kernel
theorem dX1_putRule_1 : decode cX1_putRule 1 = .ok (.aload_n 0, 1) := by decide +kernel
theorem dX1_putRule_2 : decode cX1_putRule 2 = .ok (.getfield 44, 3) := by decide +kernel
theorem dX1_putRule_5 : decode cX1_putRule 5 = .ok (.invokestatic 23, 3) := by decide +kernel
theorem dX1_putRule_8 : decode cX1_putRule 8 = .ok (.invokevirtual 11, 3) := by decide +kernel
theorem dX1_putRule_11 : decode cX1_putRule 11 = .ok (.iconst 0, 1) := by decide +kernel
theorem dX1_putRule_12 : decode cX1_putRule 12 = .ok (.istore_n 2, 1) := by decide +kernel
theorem dX1_putRule_13 : decode cX1_putRule 13 = .ok (.iload_n 2, 1) := by decide +kernel
theorem dX1_putRule_14 : decode cX1_putRule 14 = .ok (.bipush 7, 2) := by decide +kernel
theorem dX1_putRule_16 : decode cX1_putRule 16 = .ok (.if_icmp .ge 43, 3) := by decide +kernel
theorem dX1_putRule_19 : decode cX1_putRule 19 = .ok (.aload_n 0, 1) := by decide +kernel
theorem dX1_putRule_20 : decode cX1_putRule 20 = .ok (.iload_n 2, 1) := by decide +kernel
theorem dX1_putRule_21 : decode cX1_putRule 21 = .ok (.invokevirtual 49, 3) := by decide +kernel
theorem dX1_putRule_24 : decode cX1_putRule 24 = .ok (.ifCond .ne 29, 3) := by decide +kernel
theorem dX1_putRule_27 : decode cX1_putRule 27 = .ok (.aload_n 1, 1) := by decide +kernel
theorem dX1_putRule_28 : decode cX1_putRule 28 = .ok (.bipush 32, 2) := by decide +kernel
theorem dX1_putRule_30 : decode cX1_putRule 30 = .ok (.invokevirtual 53, 3) := by decide +kernel
theorem dX1_putRule_33 : decode cX1_putRule 33 = .ok (.aload_n 1, 1) := by decide +kernel
theorem dX1_putRule_34 : decode cX1_putRule 34 = .ok (.iload_n 2, 1) := by decide +kernel
theorem dX1_putRule_35 : decode cX1_putRule 35 = .ok (.invokestatic 57, 3) := by decide +kernel
theorem dX1_putRule_38 : decode cX1_putRule 38 = .ok (.invokevirtual 11, 3) := by decide +kernel
theorem dX1_putRule_41 : decode cX1_putRule 41 = .ok (.aload_n 1, 1) := by decide +kernel
theorem dX1_putRule_42 : decode cX1_putRule 42 = .ok (.bipush 32, 2) := by decide +kernel
theorem dX1_putRule_44 : decode cX1_putRule 44 = .ok (.invokevirtual 53, 3) := by decide +kernel
theorem dX1_putRule_47 : decode cX1_putRule 47 = .ok (.aload_n 0, 1) := by decide +kernel
theorem dX1_putRule_48 : decode cX1_putRule 48 = .ok (.iload_n 2, 1) := by decide +kernel
theorem dX1_putRule_49 : decode cX1_putRule 49 = .ok (.aload_n 1, 1) := by decide +kernel
theorem dX1_putRule_50 : decode cX1_putRule 50 = .ok (.invokestatic 60, 3) := by decide +kernel
theorem dX1_putRule_53 : decode cX1_putRule 53 = .ok (.iinc 2 1, 3) := by decide +kernel
theorem dX1_putRule_56 : decode cX1_putRule 56 = .ok (.goto (-43), 3) := by decide +kernel
theorem dX1_putRule_59 : decode cX1_putRule 59 = .ok (.aload_n 1, 1) := by decide +kernel
theorem dX1_putRule_60 : decode cX1_putRule 60 = .ok (.invokestatic 27, 3) := by decide +kernel
theorem dX1_putRule_63 : decode cX1_putRule 63 = .ok (.return_, 1) := by decide +kernel
theorem e_X1_putRule_13 {X : gk_X} {F : Nat} : ∀ (n : Nat) (l0 : Nat) (l1 : Nat) (l2 : Int32) (S : gk_S) (r : (Unit × gk_S)), f_X1_putRule_13 F n l0 l1 l2 S = some r → EvW X m_X1_putRule 8 0 0 13 [some (.ref l0), some (.ref l1), some (.int l2)] [] S (qRU r) := by
  intro n
  induction n with
  | zero => intro l0 l1 l2 S r h0; rw [f_X1_putRule_13] at h0; cases h0
  | succ n ih =>
    intro l0 l1 l2 S r h0; rw [f_X1_putRule_13] at h0
    refine ev_iload_n (pc := 13) (i := 2) rfl rfl dX1_putRule_13 ?_
    refine ev_bipush (pc := 14) (v := 7) (by decide) dX1_putRule_14 ?_
    refine ev_ic_ge (pc := 16) (tgt := 59) (by decide) dX1_putRule_16 (fun c16 => ?_) (fun c16 => ?_)
    · replace h0 := qi_t h0 c16
      refine ev_aload_n (pc := 59) (i := 1) rfl rfl rfl dX1_putRule_59 ?_
      obtain ⟨x18, S19, e20, h21⟩ := qc_el h0; clear h0
      refine xv_callS (pc := 60) (st := []) (as := [.ref l1]) (v := none) (S' := S19) ok_X1_putEnd (e_X1_putEnd e20) (by decide) rfl (Nat.le_of_ble_eq_true rfl) rfl gw_724 dX1_putRule_60 ?_
      exact ev_return (pc := 63) rfl (qRU_eq h21) dX1_putRule_63
    · replace h0 := qi_f h0 c16
      refine ev_aload_n (pc := 19) (i := 0) rfl rfl rfl dX1_putRule_19 ?_
      refine ev_iload_n (pc := 20) (i := 2) rfl rfl dX1_putRule_20 ?_
      obtain ⟨g22, h23⟩ := qk_el h0; clear h0
      obtain ⟨x24, S25, e26, h27⟩ := qc_el h23; clear h23
      refine xv_callV (pc := 21) (st := []) (as := [.int l2]) (v := (some (.int x24))) (S' := S25) ok_X5_isWhole (e_X5_isWhole e26) (isb_el g22) (by decide) rfl (Nat.le_of_ble_eq_true rfl) rfl gw_732 dX1_putRule_21 ?_
      refine ev_if_ne (pc := 24) (tgt := 53) (by decide) dX1_putRule_24 (fun c28 => ?_) (fun c28 => ?_)
      · replace h27 := qi_f h27 c28
        refine ev_iinc (pc := 53) (L' := [some (.ref l0), some (.ref l1), some (.int (l2 + 1))]) (i := 2) (v := (l2 + 1)) rfl rfl (by decide) rfl rfl dX1_putRule_53 ?_
        refine ev_goto (pc := 56) (tgt := 13) (by decide) dX1_putRule_56 ?_
        exact (ev_weak (qL_s (qL_s (qL_s qL_nil))) (ih _ _ _ _ _ h27))
      · replace h27 := qi_t h27 c28
        refine ev_aload_n (pc := 27) (i := 1) rfl rfl rfl dX1_putRule_27 ?_
        refine ev_bipush (pc := 28) (v := 32) (by decide) dX1_putRule_28 ?_
        obtain ⟨g30, h31⟩ := qk_el h27; clear h27
        obtain ⟨x32, S33, e34, h35⟩ := qc_el h31; clear h31
        refine xv_callV (pc := 30) (st := []) (as := [.int 32]) (v := none) (S' := S33) ok_X2_add (e_X2_add e34) (isb_el g30) (by decide) rfl (Nat.le_of_ble_eq_true rfl) rfl gw_727 dX1_putRule_30 ?_
        refine ev_aload_n (pc := 33) (i := 1) rfl rfl rfl dX1_putRule_33 ?_
        refine ev_iload_n (pc := 34) (i := 2) rfl rfl dX1_putRule_34 ?_
        obtain ⟨x36, S37, e38, h39⟩ := qc_el h35; clear h35
        refine xv_callSN (pc := 35) (st := [.ref l1]) (as := [.int l2]) (v := (some (.retAddr (10 + x36)))) (S' := S37) (host := "GateHouse") ok_X11_partWord (e_X11_partWord e38) (by decide) rfl (Nat.le_of_ble_eq_true rfl) rfl (by decide +kernel) dX1_putRule_35 ?_
        obtain ⟨g40, h41⟩ := qk_el h39; clear h39
        obtain ⟨x42, S43, e44, h45⟩ := qc_el h41; clear h41
        refine xv_callV (pc := 38) (st := []) (as := [.retAddr (10 + x36)]) (v := none) (S' := S43) ok_X2_addText (e_X2_addText e44) (isb_el g40) (by decide) rfl (Nat.le_of_ble_eq_true rfl) rfl gw_717 dX1_putRule_38 ?_
        refine ev_aload_n (pc := 41) (i := 1) rfl rfl rfl dX1_putRule_41 ?_
        refine ev_bipush (pc := 42) (v := 32) (by decide) dX1_putRule_42 ?_
        obtain ⟨g46, h47⟩ := qk_el h45; clear h45
        obtain ⟨x48, S49, e50, h51⟩ := qc_el h47; clear h47
        refine xv_callV (pc := 44) (st := []) (as := [.int 32]) (v := none) (S' := S49) ok_X2_add (e_X2_add e50) (isb_el g46) (by decide) rfl (Nat.le_of_ble_eq_true rfl) rfl gw_727 dX1_putRule_44 ?_
        refine ev_aload_n (pc := 47) (i := 0) rfl rfl rfl dX1_putRule_47 ?_
        refine ev_iload_n (pc := 48) (i := 2) rfl rfl dX1_putRule_48 ?_
        refine ev_aload_n (pc := 49) (i := 1) rfl rfl rfl dX1_putRule_49 ?_
        obtain ⟨x52, S53, e54, h55⟩ := qc_el h51; clear h51
        refine xv_callS (pc := 50) (st := []) (as := [.ref l0, .int l2, .ref l1]) (v := none) (S' := S53) ok_X1_putPart (e_X1_putPart e54) (by decide) rfl (Nat.le_of_ble_eq_true rfl) rfl gw_737 dX1_putRule_50 ?_
        refine ev_iinc (pc := 53) (L' := [some (.ref l0), some (.ref l1), some (.int (l2 + 1))]) (i := 2) (v := (l2 + 1)) rfl rfl (by decide) rfl rfl dX1_putRule_53 ?_
        refine ev_goto (pc := 56) (tgt := 13) (by decide) dX1_putRule_56 ?_
        exact (ev_weak (qL_s (qL_s (qL_s qL_nil))) (ih _ _ _ _ _ h55))
theorem e_X1_putRule {X : gk_X} {F : Nat} {S : gk_S} {p0 : Nat} {p1 : Nat} {r : (Unit × gk_S)} (h0 : f_X1_putRule F S p0 p1 = some r) : EvM X m_X1_putRule 8 0 0 [.ref p0, .ref p1] S (qRU r) := by
  unfold f_X1_putRule at h0
  refine ev_method (by decide +kernel) rfl rfl (Nat.le_of_ble_eq_true rfl) ?_
  show EvW X m_X1_putRule 8 0 0 0 [some (.ref p0), some (.ref p1), none] [] S _
  refine ev_aload_n (pc := 0) (i := 1) rfl rfl rfl dX1_putRule_0 ?_
  refine ev_aload_n (pc := 1) (i := 0) rfl rfl rfl dX1_putRule_1 ?_
  obtain ⟨g1, h2⟩ := qk_el h0; clear h0
  obtain ⟨x3, e4, h5⟩ := qv_el h2; clear h2
  refine xv_getIv (pc := 2) fn_303 (isb_el g1) e4 gw_73 dX1_putRule_2 ?_
  obtain ⟨x6, S7, e8, h9⟩ := qc_el h5; clear h5
  refine xv_callSN (pc := 5) (st := [.ref p1]) (as := [.int x3]) (v := (some (.retAddr (10 + x6)))) (S' := S7) (host := "GateHouse") ok_X11_actionWord (e_X11_actionWord e8) (by decide) rfl (Nat.le_of_ble_eq_true rfl) rfl (by decide +kernel) dX1_putRule_5 ?_
  obtain ⟨g10, h11⟩ := qk_el h9; clear h9
  obtain ⟨x12, S13, e14, h15⟩ := qc_el h11; clear h11
  refine xv_callV (pc := 8) (st := []) (as := [.retAddr (10 + x6)]) (v := none) (S' := S13) ok_X2_addText (e_X2_addText e14) (isb_el g10) (by decide) rfl (Nat.le_of_ble_eq_true rfl) rfl gw_717 dX1_putRule_8 ?_
  refine ev_iconst (pc := 11) (v := 0) (by decide) dX1_putRule_11 ?_
  refine ev_istore_n (pc := 12) (L' := [some (.ref p0), some (.ref p1), some (.int 0)]) (i := 2) rfl (by decide) rfl rfl dX1_putRule_12 ?_
  exact ev_weak (qL_s (qL_s (qL_s qL_nil))) (e_X1_putRule_13 F _ _ _ _ _ h15)
theorem dX1_put_0 : decode cX1_put 0 = .ok (.aload_n 1, 1) := by decide +kernel
theorem dX1_put_1 : decode cX1_put 1 = .ok (.ldc 9, 2) := by decide +kernel
theorem dX1_put_3 : decode cX1_put 3 = .ok (.invokevirtual 11, 3) := by decide +kernel
theorem dX1_put_6 : decode cX1_put 6 = .ok (.aload_n 1, 1) := by decide +kernel
theorem dX1_put_7 : decode cX1_put 7 = .ok (.aload_n 0, 1) := by decide +kernel
theorem dX1_put_8 : decode cX1_put 8 = .ok (.getfield 17, 3) := by decide +kernel
theorem dX1_put_11 : decode cX1_put 11 = .ok (.invokestatic 23, 3) := by decide +kernel
theorem dX1_put_14 : decode cX1_put 14 = .ok (.invokevirtual 11, 3) := by decide +kernel
theorem dX1_put_17 : decode cX1_put 17 = .ok (.aload_n 1, 1) := by decide +kernel
theorem dX1_put_18 : decode cX1_put 18 = .ok (.invokestatic 27, 3) := by decide +kernel
theorem dX1_put_21 : decode cX1_put 21 = .ok (.iconst 0, 1) := by decide +kernel
theorem dX1_put_22 : decode cX1_put 22 = .ok (.istore_n 2, 1) := by decide +kernel
theorem dX1_put_23 : decode cX1_put 23 = .ok (.iload_n 2, 1) := by decide +kernel
theorem dX1_put_24 : decode cX1_put 24 = .ok (.aload_n 0, 1) := by decide +kernel
theorem dX1_put_25 : decode cX1_put 25 = .ok (.getfield 33, 3) := by decide +kernel
theorem dX1_put_28 : decode cX1_put 28 = .ok (.if_icmp .ge 24, 3) := by decide +kernel
theorem dX1_put_31 : decode cX1_put 31 = .ok (.iload_n 2, 1) := by decide +kernel
theorem dX1_put_32 : decode cX1_put 32 = .ok (.bipush 16, 2) := by decide +kernel
theorem dX1_put_34 : decode cX1_put 34 = .ok (.if_icmp .ge 18, 3) := by decide +kernel
theorem dX1_put_37 : decode cX1_put 37 = .ok (.aload_n 0, 1) := by decide +kernel
theorem dX1_put_38 : decode cX1_put 38 = .ok (.iload_n 2, 1) := by decide +kernel
theorem dX1_put_39 : decode cX1_put 39 = .ok (.invokevirtual 36, 3) := by decide +kernel
theorem dX1_put_42 : decode cX1_put 42 = .ok (.aload_n 1, 1) := by decide +kernel
theorem dX1_put_43 : decode cX1_put 43 = .ok (.invokestatic 40, 3) := by decide +kernel
theorem dX1_put_46 : decode cX1_put 46 = .ok (.iinc 2 1, 3) := by decide +kernel
theorem dX1_put_49 : decode cX1_put 49 = .ok (.goto (-26), 3) := by decide +kernel
theorem dX1_put_52 : decode cX1_put 52 = .ok (.return_, 1) := by decide +kernel
theorem e_X1_put_23 {X : gk_X} {F : Nat} : ∀ (n : Nat) (l0 : Nat) (l1 : Nat) (l2 : Int32) (S : gk_S) (r : (Unit × gk_S)), f_X1_put_23 F n l0 l1 l2 S = some r → EvW X m_X1_put 9 0 0 23 [some (.ref l0), some (.ref l1), some (.int l2)] [] S (qRU r) := by
  intro n
  induction n with
  | zero => intro l0 l1 l2 S r h0; rw [f_X1_put_23] at h0; cases h0
  | succ n ih =>
    intro l0 l1 l2 S r h0; rw [f_X1_put_23] at h0
    refine ev_iload_n (pc := 23) (i := 2) rfl rfl dX1_put_23 ?_
    refine ev_aload_n (pc := 24) (i := 0) rfl rfl rfl dX1_put_24 ?_
    obtain ⟨g26, h27⟩ := qk_el h0; clear h0
    obtain ⟨x28, e29, h30⟩ := qv_el h27; clear h27
    refine xv_getIv (pc := 25) fn_401 (isb_el g26) e29 gw_93 dX1_put_25 ?_
    refine ev_ic_ge (pc := 28) (tgt := 52) (by decide) dX1_put_28 (fun c31 => ?_) (fun c31 => ?_)
    · replace h30 := qi_t h30 c31
      exact ev_return (pc := 52) rfl (qRU_eq h30) dX1_put_52
    · replace h30 := qi_f h30 c31
      refine ev_iload_n (pc := 31) (i := 2) rfl rfl dX1_put_31 ?_
      refine ev_bipush (pc := 32) (v := 16) (by decide) dX1_put_32 ?_
      refine ev_ic_ge (pc := 34) (tgt := 52) (by decide) dX1_put_34 (fun c33 => ?_) (fun c33 => ?_)
      · replace h30 := qi_t h30 c33
        exact ev_return (pc := 52) rfl (qRU_eq h30) dX1_put_52
      · replace h30 := qi_f h30 c33
        refine ev_aload_n (pc := 37) (i := 0) rfl rfl rfl dX1_put_37 ?_
        refine ev_iload_n (pc := 38) (i := 2) rfl rfl dX1_put_38 ?_
        obtain ⟨x35, S36, e37, h38⟩ := qc_el h30; clear h30
        refine xv_callV (pc := 39) (st := []) (as := [.int l2]) (v := (some (.ref x35))) (S' := S36) ok_X6_at (e_X6_at e37) (isb_el g26) (by decide) rfl (Nat.le_of_ble_eq_true rfl) rfl gw_728 dX1_put_39 ?_
        refine ev_aload_n (pc := 42) (i := 1) rfl rfl rfl dX1_put_42 ?_
        obtain ⟨x39, S40, e41, h42⟩ := qc_el h38; clear h38
        refine xv_callS (pc := 43) (st := []) (as := [.ref x35, .ref l1]) (v := none) (S' := S40) ok_X1_putRule (e_X1_putRule e41) (by decide) rfl (Nat.le_of_ble_eq_true rfl) rfl gw_729 dX1_put_43 ?_
        refine ev_iinc (pc := 46) (L' := [some (.ref l0), some (.ref l1), some (.int (l2 + 1))]) (i := 2) (v := (l2 + 1)) rfl rfl (by decide) rfl rfl dX1_put_46 ?_
        refine ev_goto (pc := 49) (tgt := 23) (by decide) dX1_put_49 ?_
        exact (ev_weak (qL_s (qL_s (qL_s qL_nil))) (ih _ _ _ _ _ h42))
theorem e_X1_put {X : gk_X} {F : Nat} {S : gk_S} {p0 : Nat} {p1 : Nat} {r : (Unit × gk_S)} (h0 : f_X1_put F S p0 p1 = some r) : EvM X m_X1_put 9 0 0 [.ref p0, .ref p1] S (qRU r) := by
  unfold f_X1_put at h0
  refine ev_method (by decide +kernel) rfl rfl (Nat.le_of_ble_eq_true rfl) ?_
  show EvW X m_X1_put 9 0 0 0 [some (.ref p0), some (.ref p1), none] [] S _
  refine ev_aload_n (pc := 0) (i := 1) rfl rfl rfl dX1_put_0 ?_
  refine ev_ldcS (pc := 1) (i := 22) (by decide) rfl rfl dX1_put_1 ?_
  obtain ⟨g1, h2⟩ := qk_el h0; clear h0
  obtain ⟨x3, S4, e5, h6⟩ := qc_el h2; clear h2
  refine xv_callV (pc := 3) (st := []) (as := [.retAddr (10 + 22)]) (v := none) (S' := S4) ok_X2_addText (e_X2_addText e5) (isb_el g1) (by decide) rfl (Nat.le_of_ble_eq_true rfl) rfl gw_717 dX1_put_3 ?_
  refine ev_aload_n (pc := 6) (i := 1) rfl rfl rfl dX1_put_6 ?_
  refine ev_aload_n (pc := 7) (i := 0) rfl rfl rfl dX1_put_7 ?_
  obtain ⟨g7, h8⟩ := qk_el h6; clear h6
  obtain ⟨x9, e10, h11⟩ := qv_el h8; clear h8
  refine xv_getIv (pc := 8) fn_402 (isb_el g7) e10 gw_97 dX1_put_8 ?_
  obtain ⟨x12, S13, e14, h15⟩ := qc_el h11; clear h11
  refine xv_callSN (pc := 11) (st := [.ref p1]) (as := [.int x9]) (v := (some (.retAddr (10 + x12)))) (S' := S13) (host := "GateHouse") ok_X11_actionWord (e_X11_actionWord e14) (by decide) rfl (Nat.le_of_ble_eq_true rfl) rfl (by decide +kernel) dX1_put_11 ?_
  obtain ⟨g16, h17⟩ := qk_el h15; clear h15
  obtain ⟨x18, S19, e20, h21⟩ := qc_el h17; clear h17
  refine xv_callV (pc := 14) (st := []) (as := [.retAddr (10 + x12)]) (v := none) (S' := S19) ok_X2_addText (e_X2_addText e20) (isb_el g16) (by decide) rfl (Nat.le_of_ble_eq_true rfl) rfl gw_717 dX1_put_14 ?_
  refine ev_aload_n (pc := 17) (i := 1) rfl rfl rfl dX1_put_17 ?_
  obtain ⟨x22, S23, e24, h25⟩ := qc_el h21; clear h21
  refine xv_callS (pc := 18) (st := []) (as := [.ref p1]) (v := none) (S' := S23) ok_X1_putEnd (e_X1_putEnd e24) (by decide) rfl (Nat.le_of_ble_eq_true rfl) rfl gw_724 dX1_put_18 ?_
  refine ev_iconst (pc := 21) (v := 0) (by decide) dX1_put_21 ?_
  refine ev_istore_n (pc := 22) (L' := [some (.ref p0), some (.ref p1), some (.int 0)]) (i := 2) rfl (by decide) rfl rfl dX1_put_22 ?_
  exact ev_weak (qL_s (qL_s (qL_s qL_nil))) (e_X1_put_23 F _ _ _ _ _ h25)
theorem dX11_write_0 : decode cX11_write 0 = .ok (.iload_n 1, 1) := by decide +kernel
theorem dX11_write_1 : decode cX11_write 1 = .ok (.invokestatic 89, 3) := by decide +kernel
theorem dX11_write_4 : decode cX11_write 4 = .ok (.aload_n 0, 1) := by decide +kernel
theorem dX11_write_5 : decode cX11_write 5 = .ok (.getfield 18, 3) := by decide +kernel
theorem dX11_write_8 : decode cX11_write 8 = .ok (.iconst 0, 1) := by decide +kernel
theorem dX11_write_9 : decode cX11_write 9 = .ok (.putfield 83, 3) := by decide +kernel
theorem dX11_write_12 : decode cX11_write 12 = .ok (.aload_n 0, 1) := by decide +kernel
theorem dX11_write_13 : decode cX11_write 13 = .ok (.getfield 23, 3) := by decide +kernel
theorem dX11_write_16 : decode cX11_write 16 = .ok (.iload_n 1, 1) := by decide +kernel
theorem dX11_write_17 : decode cX11_write 17 = .ok (.aaload, 1) := by decide +kernel
theorem dX11_write_18 : decode cX11_write 18 = .ok (.aload_n 0, 1) := by decide +kernel
theorem dX11_write_19 : decode cX11_write 19 = .ok (.getfield 18, 3) := by decide +kernel
theorem dX11_write_22 : decode cX11_write 22 = .ok (.invokestatic 129, 3) := by decide +kernel
theorem dX11_write_25 : decode cX11_write 25 = .ok (.aload_n 0, 1) := by decide +kernel
theorem dX11_write_26 : decode cX11_write 26 = .ok (.getfield 18, 3) := by decide +kernel
theorem dX11_write_29 : decode cX11_write 29 = .ok (.getfield 83, 3) := by decide +kernel
theorem dX11_write_32 : decode cX11_write 32 = .ok (.ireturn, 1) := by decide +kernel
theorem e_X11_write {X : gk_X} {F : Nat} {k j : Nat} {S : gk_S} {a : Nat} {p0 : Int32} {r : ((Int32 ⊕ String) × gk_S)} (hb : qb r k j) (h0 : f_X11_write F S a p0 = some r) : EvM X m_X11_write 10 k j [.ref a, .int p0] S (qXI r) := by
  unfold f_X11_write at h0
  refine ev_method (by decide +kernel) rfl rfl (Nat.le_of_ble_eq_true rfl) ?_
  show EvW X m_X11_write 10 k j 0 [some (.ref a), some (.int p0)] [] S _
  refine ev_iload_n (pc := 0) (i := 1) rfl rfl dX11_write_0 ?_
  rcases qx_el h0 with ⟨E5, T6, e3, z1⟩ | ⟨x1, S2, e3, h4⟩
  · subst z1
    exact xv_thrS (pc := 1) (st := []) (as := [.int p0]) ok_X11_checkList (e_X11_checkList (fun _ _ => qb_inr hb) e3) rfl rfl (by decide) (Nat.le_refl _) (Nat.le_refl _) rfl (Nat.le_of_ble_eq_true rfl) rfl gw_386 dX11_write_1
  clear h0
  refine xv_callS (pc := 1) (st := []) (as := [.int p0]) (v := none) (S' := S2) ok_X11_checkList (e_X11_checkList (k := 0) (j := 0) qb_inl e3) (by decide) rfl (Nat.le_of_ble_eq_true rfl) rfl gw_386 dX11_write_1 ?_
  refine ev_aload_n (pc := 4) (i := 0) rfl rfl rfl dX11_write_4 ?_
  obtain ⟨g7, h8⟩ := qk_el h4; clear h4
  obtain ⟨b9, e10, h11⟩ := qP_el h8; clear h8
  refine xv_getP (pc := 5) fn_801 (isb_el g7) e10 gw_283 dX11_write_5 ?_
  refine ev_iconst (pc := 8) (v := 0) (by decide) dX11_write_8 ?_
  obtain ⟨g12, h13⟩ := qk_el h11; clear h11
  obtain ⟨S14, e15, h16⟩ := qv_el h13; clear h13
  refine yv_putI (pc := 9) fn_101 ⟨rfl, rfl⟩ (isb_el g12) e15 gw_42 dX11_write_9 ?_
  refine ev_aload_n (pc := 12) (i := 0) rfl rfl rfl dX11_write_12 ?_
  obtain ⟨b17, e18, h19⟩ := qP_el h16; clear h16
  refine xv_getP (pc := 13) fn_802 (is_sI (isb_el g7) e15) e18 gw_284 dX11_write_13 ?_
  refine ev_iload_n (pc := 16) (i := 1) rfl rfl dX11_write_16 ?_
  obtain ⟨g20, h21⟩ := qk_el h19; clear h19
  obtain ⟨g22, h23⟩ := qk_el h21; clear h21
  obtain ⟨b24, e25, h26⟩ := qP_el h23; clear h23
  refine yv_aald (pc := 17) (isb_el g20) (by decide) (inb_el g22) e25 dX11_write_17 ?_
  refine ev_aload_n (pc := 18) (i := 0) rfl rfl rfl dX11_write_18 ?_
  obtain ⟨b27, e28, h29⟩ := qP_el h26; clear h26
  refine xv_getP (pc := 19) fn_801 (is_sI (isb_el g7) e15) e28 gw_283 dX11_write_19 ?_
  obtain ⟨x30, S31, e32, h33⟩ := qc_el h29; clear h29
  refine xv_callS (pc := 22) (st := []) (as := [.ref b24, .ref b27]) (v := none) (S' := S31) ok_X1_put (e_X1_put e32) (by decide) rfl (Nat.le_of_ble_eq_true rfl) rfl gw_713 dX11_write_22 ?_
  refine ev_aload_n (pc := 25) (i := 0) rfl rfl rfl dX11_write_25 ?_
  obtain ⟨g34, h35⟩ := qk_el h33; clear h33
  obtain ⟨b36, e37, h38⟩ := qP_el h35; clear h35
  refine xv_getP (pc := 26) fn_801 (isb_el g34) e37 gw_283 dX11_write_26 ?_
  obtain ⟨g39, h40⟩ := qk_el h38; clear h38
  obtain ⟨x41, e42, h43⟩ := qv_el h40; clear h40
  refine xv_getIv (pc := 29) fn_101 (isb_el g39) e42 gw_42 dX11_write_29 ?_
  cases h43
  exact ev_ireturn (pc := 32) rfl (nar_int _) rfl dX11_write_32
theorem dL_write_0 : decode cL_write 0 = .ok (.aload_n 2, 1) := by decide +kernel
theorem dL_write_1 : decode cL_write 1 = .ok (.iconst 0, 1) := by decide +kernel
theorem dL_write_2 : decode cL_write 2 = .ok (.aload_n 0, 1) := by decide +kernel
theorem dL_write_3 : decode cL_write 3 = .ok (.iload_n 1, 1) := by decide +kernel
theorem dL_write_4 : decode cL_write 4 = .ok (.invokevirtual 24, 3) := by decide +kernel
theorem dL_write_7 : decode cL_write 7 = .ok (.i2l, 1) := by decide +kernel
theorem dL_write_8 : decode cL_write 8 = .ok (.lastore, 1) := by decide +kernel
theorem dL_write_9 : decode cL_write 9 = .ok (.goto 6, 3) := by decide +kernel
theorem dL_write_12 : decode cL_write 12 = .ok (.astore_n 3, 1) := by decide +kernel
theorem dL_write_13 : decode cL_write 13 = .ok (.iconst 1, 1) := by decide +kernel
theorem dL_write_14 : decode cL_write 14 = .ok (.ireturn, 1) := by decide +kernel
theorem dL_write_15 : decode cL_write 15 = .ok (.iconst 0, 1) := by decide +kernel
theorem dL_write_16 : decode cL_write 16 = .ok (.ireturn, 1) := by decide +kernel
theorem e_L_write {X : gk_X} {F : Nat} {k j : Nat} {S : gk_S} {p0 : Nat} {p1 : Int32} {p2 : Nat} {r : (Int32 × gk_S)} (hb : r.1 = 0 ∨ (1 ≤ k ∧ 6 ≤ j)) (h0 : f_L_write F S p0 p1 p2 = some r) : EvM X m_L_write 11 k j [.ref p0, .int p1, .ref p2] S (qRI r) := by
  unfold f_L_write at h0
  refine ev_methodH (by decide +kernel) (by decide) rfl (Nat.le_of_ble_eq_true rfl) ?_
  show EvW X m_L_write 11 k j 0 [some (.ref p0), some (.int p1), some (.ref p2), none] [] S _
  refine ev_aload_n (pc := 0) (i := 2) rfl rfl rfl dL_write_0 ?_
  refine ev_iconst (pc := 1) (v := 0) (by decide) dL_write_1 ?_
  refine ev_aload_n (pc := 2) (i := 0) rfl rfl rfl dL_write_2 ?_
  refine ev_iload_n (pc := 3) (i := 1) rfl rfl dL_write_3 ?_
  obtain ⟨g1, h2⟩ := qk_el h0; clear h0
  rcases qh_el h2 with ⟨E7, T8, e5, h6⟩ | ⟨x3, S4, e5, h6⟩
  · by_cases c9 : E7 = gx_I
    · replace h6 := qi_t h6 c9; subst c9
      have hb9 : 1 ≤ k ∧ 6 ≤ j := by cases h6; exact hb.resolve_left (show ¬ (1 : Int32) = 0 by decide)
      refine yv_catV (pc := 4) (st := [.int 0, .ref p2]) (as := [.int p1]) (i9 := 3) (len9 := 1) (pre := []) (suf := []) (x := (0, 9, 12, 13)) (name := "java/lang/IndexOutOfBoundsException") ok_X11_write (e_X11_write (k := k) (j := j) (fun _ _ => hb9) e5) (isb_el g1) rfl (by intro z hz; cases hz) (by decide) (by decide) (by decide) gw_381 (by decide +kernel) (.inr ⟨3, rfl, rfl, rfl⟩) (by decide) rfl (gl9 rfl) (by decide) rfl (Nat.le_of_ble_eq_true rfl) rfl gw_709 dL_write_4 dL_write_12 ?_
      refine ev_iconst (pc := 13) (v := 1) (by decide) dL_write_13 ?_
      exact ev_ireturn (pc := 14) rfl rfl (by cases h6; rfl) dL_write_14
    replace h6 := qi_f h6 c9
    cases h6
  clear h2
  refine xv_callV (pc := 4) (st := [.int 0, .ref p2]) (as := [.int p1]) (v := (some (.int x3))) (S' := S4) ok_X11_write (e_X11_write (k := 0) (j := 0) qb_inl e5) (isb_el g1) (by decide) rfl (Nat.le_of_ble_eq_true rfl) rfl gw_709 dL_write_4 ?_
  refine ev_i2l (pc := 7)  dL_write_7 ?_
  obtain ⟨g10, h11⟩ := qk_el h6; clear h6
  obtain ⟨g12, h13⟩ := qk_el h11; clear h11
  obtain ⟨S14, e15, h16⟩ := qv_el h13; clear h13
  refine yv_last (pc := 8) (isb_el g10) (inb_el g12) e15 dL_write_8 ?_
  refine ev_goto (pc := 9) (tgt := 15) (by decide) dL_write_9 ?_
  refine ev_iconst (pc := 15) (v := 0) (by decide) dL_write_15 ?_
  exact ev_ireturn (pc := 16) rfl (nar_int _) (qRI_eq h16) dL_write_16
theorem dX12_put_0 : decode cX12_put 0 = .ok (.aload_n 0, 1) := by decide +kernel
theorem dX12_put_1 : decode cX12_put 1 = .ok (.getfield 68, 3) := by decide +kernel
theorem dX12_put_4 : decode cX12_put 4 = .ok (.aload_n 0, 1) := by decide +kernel
theorem dX12_put_5 : decode cX12_put 5 = .ok (.getfield 225, 3) := by decide +kernel
theorem dX12_put_8 : decode cX12_put 8 = .ok (.iload_n 1, 1) := by decide +kernel
theorem dX12_put_9 : decode cX12_put 9 = .ok (.i2b, 1) := by decide +kernel
theorem dX12_put_10 : decode cX12_put 10 = .ok (.bastore, 1) := by decide +kernel
theorem dX12_put_11 : decode cX12_put 11 = .ok (.aload_n 0, 1) := by decide +kernel
theorem dX12_put_12 : decode cX12_put 12 = .ok (.dup, 1) := by decide +kernel
theorem dX12_put_13 : decode cX12_put 13 = .ok (.getfield 225, 3) := by decide +kernel
theorem dX12_put_16 : decode cX12_put 16 = .ok (.iconst 1, 1) := by decide +kernel
theorem dX12_put_17 : decode cX12_put 17 = .ok (.iadd, 1) := by decide +kernel
theorem dX12_put_18 : decode cX12_put 18 = .ok (.putfield 225, 3) := by decide +kernel
theorem dX12_put_21 : decode cX12_put 21 = .ok (.return_, 1) := by decide +kernel
theorem e_X12_put {X : gk_X} {F : Nat} {S : gk_S} {a : Nat} {p0 : Int32} {r : (Unit × gk_S)} (h0 : f_X12_put F S a p0 = some r) : EvM X m_X12_put 1 0 0 [.ref a, .int p0] S (qRU r) := by
  unfold f_X12_put at h0
  refine ev_method (by decide +kernel) rfl rfl (Nat.le_of_ble_eq_true rfl) ?_
  show EvW X m_X12_put 1 0 0 0 [some (.ref a), some (.int p0)] [] S _
  refine ev_aload_n (pc := 0) (i := 0) rfl rfl rfl dX12_put_0 ?_
  obtain ⟨g1, h2⟩ := qk_el h0; clear h0
  obtain ⟨b3, e4, h5⟩ := qP_el h2; clear h2
  refine xv_getP (pc := 1) fn_920 (isb_el g1) e4 gw_1160 dX12_put_1 ?_
  refine ev_aload_n (pc := 4) (i := 0) rfl rfl rfl dX12_put_4 ?_
  obtain ⟨x6, e7, h8⟩ := qv_el h5; clear h5
  refine xv_getIv (pc := 5) fn_921 (isb_el g1) e7 gw_1161 dX12_put_5 ?_
  refine ev_iload_n (pc := 8) (i := 1) rfl rfl dX12_put_8 ?_
  refine ev_i2b (pc := 9)  dX12_put_9 ?_
  obtain ⟨g9, h10⟩ := qk_el h8; clear h8
  obtain ⟨g11, h12⟩ := qk_el h10; clear h10
  obtain ⟨S13, e14, h15⟩ := qv_el h12; clear h12
  refine yv_bast (pc := 10) (isb_el g9) (inb_el g11) e14 dX12_put_10 ?_
  refine ev_aload_n (pc := 11) (i := 0) rfl rfl rfl dX12_put_11 ?_
  refine ev_dup (pc := 12) (.inr rfl) dX12_put_12 ?_
  obtain ⟨x16, e17, h18⟩ := qv_el h15; clear h15
  refine xv_getIv (pc := 13) fn_921 (is_wB (isb_el g1) e14) e17 gw_1161 dX12_put_13 ?_
  refine ev_iconst (pc := 16) (v := 1) (by decide) dX12_put_16 ?_
  refine ev_iadd (pc := 17)  dX12_put_17 ?_
  obtain ⟨S19, e20, h21⟩ := qv_el h18; clear h18
  refine yv_putI (pc := 18) fn_921 ⟨rfl, rfl⟩ (is_wB (isb_el g1) e14) e20 gw_1161 dX12_put_18 ?_
  exact ev_return (pc := 21) rfl (qRU_eq h21) dX12_put_21
theorem dX12_putWord_0 : decode cX12_putWord 0 = .ok (.iconst 0, 1) := by decide +kernel
theorem dX12_putWord_1 : decode cX12_putWord 1 = .ok (.istore_n 2, 1) := by decide +kernel
theorem dX12_putWord_2 : decode cX12_putWord 2 = .ok (.iload_n 2, 1) := by decide +kernel
theorem dX12_putWord_3 : decode cX12_putWord 3 = .ok (.aload_n 0, 1) := by decide +kernel
theorem dX12_putWord_4 : decode cX12_putWord 4 = .ok (.getfield 65, 3) := by decide +kernel
theorem dX12_putWord_7 : decode cX12_putWord 7 = .ok (.iload_n 1, 1) := by decide +kernel
theorem dX12_putWord_8 : decode cX12_putWord 8 = .ok (.iaload, 1) := by decide +kernel
theorem dX12_putWord_9 : decode cX12_putWord 9 = .ok (.if_icmp .ge 26, 3) := by decide +kernel
theorem dX12_putWord_12 : decode cX12_putWord 12 = .ok (.aload_n 0, 1) := by decide +kernel
theorem dX12_putWord_13 : decode cX12_putWord 13 = .ok (.ldc 99, 2) := by decide +kernel
theorem dX12_putWord_15 : decode cX12_putWord 15 = .ok (.aload_n 0, 1) := by decide +kernel
theorem dX12_putWord_16 : decode cX12_putWord 16 = .ok (.getfield 62, 3) := by decide +kernel
theorem dX12_putWord_19 : decode cX12_putWord 19 = .ok (.iload_n 1, 1) := by decide +kernel
theorem dX12_putWord_20 : decode cX12_putWord 20 = .ok (.iaload, 1) := by decide +kernel
theorem dX12_putWord_21 : decode cX12_putWord 21 = .ok (.iload_n 2, 1) := by decide +kernel
theorem dX12_putWord_22 : decode cX12_putWord 22 = .ok (.iadd, 1) := by decide +kernel
theorem dX12_putWord_23 : decode cX12_putWord 23 = .ok (.invokevirtual 106, 3) := by decide +kernel
theorem dX12_putWord_26 : decode cX12_putWord 26 = .ok (.invokevirtual 228, 3) := by decide +kernel
theorem dX12_putWord_29 : decode cX12_putWord 29 = .ok (.iinc 2 1, 3) := by decide +kernel
theorem dX12_putWord_32 : decode cX12_putWord 32 = .ok (.goto (-30), 3) := by decide +kernel
theorem dX12_putWord_35 : decode cX12_putWord 35 = .ok (.return_, 1) := by decide +kernel
theorem e_X12_putWord_2 {X : gk_X} {F : Nat} : ∀ (n : Nat) (l0 : Nat) (l1 : Int32) (l2 : Int32) (S : gk_S) (r : (Unit × gk_S)), f_X12_putWord_2 F n l0 l1 l2 S = some r → EvW X m_X12_putWord 5 0 0 2 [some (.ref l0), some (.int l1), some (.int l2)] [] S (qRU r) := by
  intro n
  induction n with
  | zero => intro l0 l1 l2 S r h0; rw [f_X12_putWord_2] at h0; cases h0
  | succ n ih =>
    intro l0 l1 l2 S r h0; rw [f_X12_putWord_2] at h0
    refine ev_iload_n (pc := 2) (i := 2) rfl rfl dX12_putWord_2 ?_
    refine ev_aload_n (pc := 3) (i := 0) rfl rfl rfl dX12_putWord_3 ?_
    obtain ⟨g1, h2⟩ := qk_el h0; clear h0
    obtain ⟨b3, e4, h5⟩ := qP_el h2; clear h2
    refine xv_getP (pc := 4) fn_913 (isb_el g1) e4 gw_1153 dX12_putWord_4 ?_
    refine ev_iload_n (pc := 7) (i := 1) rfl rfl dX12_putWord_7 ?_
    obtain ⟨g6, h7⟩ := qk_el h5; clear h5
    obtain ⟨g8, h9⟩ := qk_el h7; clear h7
    obtain ⟨x10, e11, h12⟩ := qv_el h9; clear h9
    refine yv_iald (pc := 8) (isb_el g6) (inb_el g8) e11 dX12_putWord_8 ?_
    refine ev_ic_ge (pc := 9) (tgt := 35) (by decide) dX12_putWord_9 (fun c13 => ?_) (fun c13 => ?_)
    · replace h12 := qi_t h12 c13
      exact ev_return (pc := 35) rfl (qRU_eq h12) dX12_putWord_35
    · replace h12 := qi_f h12 c13
      refine ev_aload_n (pc := 12) (i := 0) rfl rfl rfl dX12_putWord_12 ?_
      refine ev_ldcS (pc := 13) (i := 33) (by decide) rfl rfl dX12_putWord_13 ?_
      refine ev_aload_n (pc := 15) (i := 0) rfl rfl rfl dX12_putWord_15 ?_
      obtain ⟨b15, e16, h17⟩ := qP_el h12; clear h12
      refine xv_getP (pc := 16) fn_912 (isb_el g1) e16 gw_1152 dX12_putWord_16 ?_
      refine ev_iload_n (pc := 19) (i := 1) rfl rfl dX12_putWord_19 ?_
      obtain ⟨g18, h19⟩ := qk_el h17; clear h17
      obtain ⟨g20, h21⟩ := qk_el h19; clear h19
      obtain ⟨x22, e23, h24⟩ := qv_el h21; clear h21
      refine yv_iald (pc := 20) (isb_el g18) (inb_el g20) e23 dX12_putWord_20 ?_
      refine ev_iload_n (pc := 21) (i := 2) rfl rfl dX12_putWord_21 ?_
      refine ev_iadd (pc := 22)  dX12_putWord_22 ?_
      obtain ⟨x25, S26, e27, h28⟩ := qc_el h24; clear h24
      refine xv_callT (pc := 23) (st := [.ref l0]) (as := [.int (x22 + l2)]) (v := (some (.int x25))) (S' := S26) (i9 := 33) ok_J0_charAt_5068e (e_J0_charAt_5068e e27) (by decide) (by decide) rfl (Nat.le_of_ble_eq_true rfl) rfl gw_1139 dX12_putWord_23 ?_
      obtain ⟨g29, h30⟩ := qk_el h28; clear h28
      obtain ⟨x31, S32, e33, h34⟩ := qc_el h30; clear h30
      refine xv_callV (pc := 26) (st := []) (as := [.int x25]) (v := none) (S' := S32) ok_X12_put (e_X12_put e33) (isb_el g29) (by decide) rfl (Nat.le_of_ble_eq_true rfl) rfl gw_1403 dX12_putWord_26 ?_
      refine ev_iinc (pc := 29) (L' := [some (.ref l0), some (.int l1), some (.int (l2 + 1))]) (i := 2) (v := (l2 + 1)) rfl rfl (by decide) rfl rfl dX12_putWord_29 ?_
      refine ev_goto (pc := 32) (tgt := 2) (by decide) dX12_putWord_32 ?_
      exact (ev_weak (qL_s (qL_s (qL_s qL_nil))) (ih _ _ _ _ _ h34))
theorem e_X12_putWord {X : gk_X} {F : Nat} {S : gk_S} {a : Nat} {p0 : Int32} {r : (Unit × gk_S)} (h0 : f_X12_putWord F S a p0 = some r) : EvM X m_X12_putWord 5 0 0 [.ref a, .int p0] S (qRU r) := by
  unfold f_X12_putWord at h0
  refine ev_method (by decide +kernel) rfl rfl (Nat.le_of_ble_eq_true rfl) ?_
  show EvW X m_X12_putWord 5 0 0 0 [some (.ref a), some (.int p0), none] [] S _
  refine ev_iconst (pc := 0) (v := 0) (by decide) dX12_putWord_0 ?_
  refine ev_istore_n (pc := 1) (L' := [some (.ref a), some (.int p0), some (.int 0)]) (i := 2) rfl (by decide) rfl rfl dX12_putWord_1 ?_
  exact ev_weak (qL_s (qL_s (qL_s qL_nil))) (e_X12_putWord_2 F _ _ _ _ _ h0)
theorem dX12_putNumber_0 : decode cX12_putNumber 0 = .ok (.lconst 1, 1) := by decide +kernel
theorem dX12_putNumber_1 : decode cX12_putNumber 1 = .ok (.lstore_n 3, 1) := by decide +kernel
theorem dX12_putNumber_2 : decode cX12_putNumber 2 = .ok (.lload_n 1, 1) := by decide +kernel
theorem dX12_putNumber_3 : decode cX12_putNumber 3 = .ok (.lload_n 3, 1) := by decide +kernel
theorem dX12_putNumber_4 : decode cX12_putNumber 4 = .ok (.ldiv, 1) := by decide +kernel
theorem dX12_putNumber_5 : decode cX12_putNumber 5 = .ok (.ldc2_w 231, 3) := by decide +kernel
theorem dX12_putNumber_8 : decode cX12_putNumber 8 = .ok (.lcmp, 1) := by decide +kernel
theorem dX12_putNumber_9 : decode cX12_putNumber 9 = .ok (.ifCond .le 12, 3) := by decide +kernel
theorem dX12_putNumber_12 : decode cX12_putNumber 12 = .ok (.ldc2_w 150, 3) := by decide +kernel
theorem dX12_putNumber_15 : decode cX12_putNumber 15 = .ok (.lload_n 3, 1) := by decide +kernel
theorem dX12_putNumber_16 : decode cX12_putNumber 16 = .ok (.lmul, 1) := by decide +kernel
theorem dX12_putNumber_17 : decode cX12_putNumber 17 = .ok (.lstore_n 3, 1) := by decide +kernel
theorem dX12_putNumber_18 : decode cX12_putNumber 18 = .ok (.goto (-16), 3) := by decide +kernel
theorem dX12_putNumber_21 : decode cX12_putNumber 21 = .ok (.lload_n 3, 1) := by decide +kernel
theorem dX12_putNumber_22 : decode cX12_putNumber 22 = .ok (.lconst 0, 1) := by decide +kernel
theorem dX12_putNumber_23 : decode cX12_putNumber 23 = .ok (.lcmp, 1) := by decide +kernel
theorem dX12_putNumber_24 : decode cX12_putNumber 24 = .ok (.ifCond .le 28, 3) := by decide +kernel
theorem dX12_putNumber_27 : decode cX12_putNumber 27 = .ok (.aload_n 0, 1) := by decide +kernel
theorem dX12_putNumber_28 : decode cX12_putNumber 28 = .ok (.ldc2_w 152, 3) := by decide +kernel
theorem dX12_putNumber_31 : decode cX12_putNumber 31 = .ok (.lload_n 1, 1) := by decide +kernel
theorem dX12_putNumber_32 : decode cX12_putNumber 32 = .ok (.lload_n 3, 1) := by decide +kernel
theorem dX12_putNumber_33 : decode cX12_putNumber 33 = .ok (.ldiv, 1) := by decide +kernel
theorem dX12_putNumber_34 : decode cX12_putNumber 34 = .ok (.ldc2_w 150, 3) := by decide +kernel
theorem dX12_putNumber_37 : decode cX12_putNumber 37 = .ok (.lrem, 1) := by decide +kernel
theorem dX12_putNumber_38 : decode cX12_putNumber 38 = .ok (.ladd, 1) := by decide +kernel
theorem dX12_putNumber_39 : decode cX12_putNumber 39 = .ok (.l2i, 1) := by decide +kernel
theorem dX12_putNumber_40 : decode cX12_putNumber 40 = .ok (.invokevirtual 228, 3) := by decide +kernel
theorem dX12_putNumber_43 : decode cX12_putNumber 43 = .ok (.lload_n 3, 1) := by decide +kernel
theorem dX12_putNumber_44 : decode cX12_putNumber 44 = .ok (.ldc2_w 150, 3) := by decide +kernel
theorem dX12_putNumber_47 : decode cX12_putNumber 47 = .ok (.ldiv, 1) := by decide +kernel
theorem dX12_putNumber_48 : decode cX12_putNumber 48 = .ok (.lstore_n 3, 1) := by decide +kernel
theorem dX12_putNumber_49 : decode cX12_putNumber 49 = .ok (.goto (-28), 3) := by decide +kernel
theorem dX12_putNumber_52 : decode cX12_putNumber 52 = .ok (.return_, 1) := by decide +kernel
theorem e_X12_putNumber_21 {X : gk_X} {F : Nat} : ∀ (n : Nat) (l0 : Nat) (l1 : Int64) (l3 : Int64) (S : gk_S) (r : (Unit × gk_S)), f_X12_putNumber_21 F n l0 l1 l3 S = some r → EvW X m_X12_putNumber 2 0 0 21 [some (.ref l0), some (.long l1), none, some (.long l3), none] [] S (qRU r) := by
  intro n
  induction n with
  | zero => intro l0 l1 l3 S r h0; rw [f_X12_putNumber_21] at h0; cases h0
  | succ n ih =>
    intro l0 l1 l3 S r h0; rw [f_X12_putNumber_21] at h0
    refine ev_lload_n (pc := 21) (i := 3) rfl rfl dX12_putNumber_21 ?_
    refine ev_lconst (pc := 22) (v := 0) (by decide) dX12_putNumber_22 ?_
    refine ev_lcmp (pc := 23)  dX12_putNumber_23 ?_
    refine ev_if_le (pc := 24) (tgt := 52) (by decide) dX12_putNumber_24 (fun c5 => ?_) (fun c5 => ?_)
    · replace h0 := qi_t h0 (lc_le c5)
      exact ev_return (pc := 52) rfl (qRU_eq h0) dX12_putNumber_52
    · replace h0 := qi_f h0 (lc_leN c5)
      refine ev_aload_n (pc := 27) (i := 0) rfl rfl rfl dX12_putNumber_27 ?_
      refine ev_ldc2 (pc := 28) (v := 48) gw_1307 dX12_putNumber_28 ?_
      refine ev_lload_n (pc := 31) (i := 1) rfl rfl dX12_putNumber_31 ?_
      refine ev_lload_n (pc := 32) (i := 3) rfl rfl dX12_putNumber_32 ?_
      obtain ⟨g7, h8⟩ := qk_el h0; clear h0
      refine ev_ldiv (pc := 33) (nzJ_el g7) dX12_putNumber_33 ?_
      refine ev_ldc2 (pc := 34) (v := 10) gw_1306 dX12_putNumber_34 ?_
      refine ev_lrem (pc := 37) (by decide) dX12_putNumber_37 ?_
      refine ev_ladd (pc := 38)  dX12_putNumber_38 ?_
      refine ev_l2i (pc := 39)  dX12_putNumber_39 ?_
      obtain ⟨g9, h10⟩ := qk_el h8; clear h8
      obtain ⟨x11, S12, e13, h14⟩ := qc_el h10; clear h10
      refine xv_callV (pc := 40) (st := []) (as := [.int (((48 + ((l1 / l3) - (l1 / l3) / 10 * 10)) : Int64).toInt32)]) (v := none) (S' := S12) ok_X12_put (e_X12_put e13) (isb_el g9) (by decide) rfl (Nat.le_of_ble_eq_true rfl) rfl gw_1403 dX12_putNumber_40 ?_
      refine ev_lload_n (pc := 43) (i := 3) rfl rfl dX12_putNumber_43 ?_
      refine ev_ldc2 (pc := 44) (v := 10) gw_1306 dX12_putNumber_44 ?_
      refine ev_ldiv (pc := 47) (by decide) dX12_putNumber_47 ?_
      refine ev_lstore_n (pc := 48) (L' := [some (.ref l0), some (.long l1), none, some (.long (l3 / 10)), none]) (i := 3) rfl (by decide) rfl rfl dX12_putNumber_48 ?_
      refine ev_goto (pc := 49) (tgt := 21) (by decide) dX12_putNumber_49 ?_
      exact (ev_weak (qL_s (qL_s (qL_n (qL_s (qL_n qL_nil))))) (ih _ _ _ _ _ h14))
theorem e_X12_putNumber_2 {X : gk_X} {F : Nat} : ∀ (n : Nat) (l0 : Nat) (l1 : Int64) (l3 : Int64) (S : gk_S) (r : (Unit × gk_S)), f_X12_putNumber_2 F n l0 l1 l3 S = some r → EvW X m_X12_putNumber 2 0 0 2 [some (.ref l0), some (.long l1), none, some (.long l3), none] [] S (qRU r) := by
  intro n
  induction n with
  | zero => intro l0 l1 l3 S r h0; rw [f_X12_putNumber_2] at h0; cases h0
  | succ n ih =>
    intro l0 l1 l3 S r h0; rw [f_X12_putNumber_2] at h0
    refine ev_lload_n (pc := 2) (i := 1) rfl rfl dX12_putNumber_2 ?_
    refine ev_lload_n (pc := 3) (i := 3) rfl rfl dX12_putNumber_3 ?_
    obtain ⟨g1, h2⟩ := qk_el h0; clear h0
    refine ev_ldiv (pc := 4) (nzJ_el g1) dX12_putNumber_4 ?_
    refine ev_ldc2 (pc := 5) (v := 9) gw_1419 dX12_putNumber_5 ?_
    refine ev_lcmp (pc := 8)  dX12_putNumber_8 ?_
    refine ev_if_le (pc := 9) (tgt := 21) (by decide) dX12_putNumber_9 (fun c3 => ?_) (fun c3 => ?_)
    · replace h2 := qi_t h2 (lc_le c3)
      exact ev_weak (qL_s (qL_s (qL_n (qL_s (qL_n qL_nil))))) (e_X12_putNumber_21 F _ _ _ _ _ h2)
    · replace h2 := qi_f h2 (lc_leN c3)
      refine ev_ldc2 (pc := 12) (v := 10) gw_1306 dX12_putNumber_12 ?_
      refine ev_lload_n (pc := 15) (i := 3) rfl rfl dX12_putNumber_15 ?_
      refine ev_lmul (pc := 16)  dX12_putNumber_16 ?_
      refine ev_lstore_n (pc := 17) (L' := [some (.ref l0), some (.long l1), none, some (.long (10 * l3)), none]) (i := 3) rfl (by decide) rfl rfl dX12_putNumber_17 ?_
      refine ev_goto (pc := 18) (tgt := 2) (by decide) dX12_putNumber_18 ?_
      exact (ev_weak (qL_s (qL_s (qL_n (qL_s (qL_n qL_nil))))) (ih _ _ _ _ _ h2))
theorem e_X12_putNumber {X : gk_X} {F : Nat} {S : gk_S} {a : Nat} {p0 : Int64} {r : (Unit × gk_S)} (h0 : f_X12_putNumber F S a p0 = some r) : EvM X m_X12_putNumber 2 0 0 [.ref a, .long p0] S (qRU r) := by
  unfold f_X12_putNumber at h0
  refine ev_method (by decide +kernel) rfl rfl (Nat.le_of_ble_eq_true rfl) ?_
  show EvW X m_X12_putNumber 2 0 0 0 [some (.ref a), some (.long p0), none, none, none] [] S _
  refine ev_lconst (pc := 0) (v := 1) (by decide) dX12_putNumber_0 ?_
  refine ev_lstore_n (pc := 1) (L' := [some (.ref a), some (.long p0), none, some (.long 1), none]) (i := 3) rfl (by decide) rfl rfl dX12_putNumber_1 ?_
  exact ev_weak (qL_s (qL_s (qL_n (qL_s (qL_n qL_nil))))) (e_X12_putNumber_2 F _ _ _ _ _ h0)
theorem dX12_putValue_0 : decode cX12_putValue 0 = .ok (.iload_n 1, 1) := by decide +kernel
theorem dX12_putValue_1 : decode cX12_putValue 1 = .ok (.iconst 2, 1) := by decide +kernel
theorem dX12_putValue_2 : decode cX12_putValue 2 = .ok (.if_icmp .eq 14, 3) := by decide +kernel
theorem dX12_putValue_5 : decode cX12_putValue 5 = .ok (.iload_n 1, 1) := by decide +kernel
theorem dX12_putValue_6 : decode cX12_putValue 6 = .ok (.iconst 3, 1) := by decide +kernel
theorem dX12_putValue_7 : decode cX12_putValue 7 = .ok (.if_icmp .eq 9, 3) := by decide +kernel
theorem dX12_putValue_10 : decode cX12_putValue 10 = .ok (.aload_n 0, 1) := by decide +kernel
theorem dX12_putValue_11 : decode cX12_putValue 11 = .ok (.lload_n 2, 1) := by decide +kernel
theorem dX12_putValue_12 : decode cX12_putValue 12 = .ok (.invokevirtual 233, 3) := by decide +kernel
theorem dX12_putValue_15 : decode cX12_putValue 15 = .ok (.return_, 1) := by decide +kernel
theorem dX12_putValue_16 : decode cX12_putValue 16 = .ok (.bipush 24, 2) := by decide +kernel
theorem dX12_putValue_18 : decode cX12_putValue 18 = .ok (.istore 4, 2) := by decide +kernel
theorem dX12_putValue_20 : decode cX12_putValue 20 = .ok (.iload 4, 2) := by decide +kernel
theorem dX12_putValue_22 : decode cX12_putValue 22 = .ok (.ifCond .lt 32, 3) := by decide +kernel
theorem dX12_putValue_25 : decode cX12_putValue 25 = .ok (.aload_n 0, 1) := by decide +kernel
theorem dX12_putValue_26 : decode cX12_putValue 26 = .ok (.lload_n 2, 1) := by decide +kernel
theorem dX12_putValue_27 : decode cX12_putValue 27 = .ok (.iload 4, 2) := by decide +kernel
theorem dX12_putValue_29 : decode cX12_putValue 29 = .ok (.lshr, 1) := by decide +kernel
theorem dX12_putValue_30 : decode cX12_putValue 30 = .ok (.ldc2_w 23, 3) := by decide +kernel
theorem dX12_putValue_33 : decode cX12_putValue 33 = .ok (.land, 1) := by decide +kernel
theorem dX12_putValue_34 : decode cX12_putValue 34 = .ok (.invokevirtual 233, 3) := by decide +kernel
theorem dX12_putValue_37 : decode cX12_putValue 37 = .ok (.iload 4, 2) := by decide +kernel
theorem dX12_putValue_39 : decode cX12_putValue 39 = .ok (.ifCond .le 9, 3) := by decide +kernel
theorem dX12_putValue_42 : decode cX12_putValue 42 = .ok (.aload_n 0, 1) := by decide +kernel
theorem dX12_putValue_43 : decode cX12_putValue 43 = .ok (.bipush 46, 2) := by decide +kernel
theorem dX12_putValue_45 : decode cX12_putValue 45 = .ok (.invokevirtual 228, 3) := by decide +kernel
theorem dX12_putValue_48 : decode cX12_putValue 48 = .ok (.iinc 4 (-8), 3) := by decide +kernel
theorem dX12_putValue_51 : decode cX12_putValue 51 = .ok (.goto (-31), 3) := by decide +kernel
theorem dX12_putValue_54 : decode cX12_putValue 54 = .ok (.return_, 1) := by decide +kernel
theorem e_X12_putValue_20 {X : gk_X} {F : Nat} : ∀ (n : Nat) (l0 : Nat) (l2 : Int64) (l4 : Int32) (S : gk_S) (r : (Unit × gk_S)), f_X12_putValue_20 F n l0 l2 l4 S = some r → EvW X m_X12_putValue 3 0 0 20 [some (.ref l0), none, some (.long l2), none, some (.int l4)] [] S (qRU r) := by
  intro n
  induction n with
  | zero => intro l0 l2 l4 S r h0; rw [f_X12_putValue_20] at h0; cases h0
  | succ n ih =>
    intro l0 l2 l4 S r h0; rw [f_X12_putValue_20] at h0
    refine ev_iload (pc := 20) (i := 4) rfl dX12_putValue_20 ?_
    refine ev_if_lt (pc := 22) (tgt := 54) (by decide) dX12_putValue_22 (fun c3 => ?_) (fun c3 => ?_)
    · replace h0 := qi_t h0 c3
      exact ev_return (pc := 54) rfl (qRU_eq h0) dX12_putValue_54
    · replace h0 := qi_f h0 c3
      refine ev_aload_n (pc := 25) (i := 0) rfl rfl rfl dX12_putValue_25 ?_
      refine ev_lload_n (pc := 26) (i := 2) rfl rfl dX12_putValue_26 ?_
      refine ev_iload (pc := 27) (i := 4) rfl dX12_putValue_27 ?_
      refine ev_lshr (pc := 29)  dX12_putValue_29 ?_
      refine ev_ldc2 (pc := 30) (v := 255) gw_1348 dX12_putValue_30 ?_
      refine ev_land (pc := 33)  dX12_putValue_33 ?_
      obtain ⟨g5, h6⟩ := qk_el h0; clear h0
      obtain ⟨x7, S8, e9, h10⟩ := qc_el h6; clear h6
      refine xv_callV (pc := 34) (st := []) (as := [.long (((l2 : Int64) >>> ((l4 : Int32).toInt64 &&& 63)) &&& 255)]) (v := none) (S' := S8) ok_X12_putNumber (e_X12_putNumber e9) (isb_el g5) (by decide) rfl (Nat.le_of_ble_eq_true rfl) rfl gw_1415 dX12_putValue_34 ?_
      refine ev_iload (pc := 37) (i := 4) rfl dX12_putValue_37 ?_
      refine ev_if_le (pc := 39) (tgt := 48) (by decide) dX12_putValue_39 (fun c11 => ?_) (fun c11 => ?_)
      · replace h10 := qi_t h10 c11
        refine ev_iinc (pc := 48) (L' := [some (.ref l0), none, some (.long l2), none, some (.int (l4 + (-8)))]) (i := 4) (v := (l4 + (-8))) rfl (congrArg (l4 + ·) (by decide)) (by decide) rfl rfl dX12_putValue_48 ?_
        refine ev_goto (pc := 51) (tgt := 20) (by decide) dX12_putValue_51 ?_
        exact (ev_weak (qL_s (qL_n (qL_s (qL_n (qL_s qL_nil))))) (ih _ _ _ _ _ h10))
      · replace h10 := qi_f h10 c11
        refine ev_aload_n (pc := 42) (i := 0) rfl rfl rfl dX12_putValue_42 ?_
        refine ev_bipush (pc := 43) (v := 46) (by decide) dX12_putValue_43 ?_
        obtain ⟨g13, h14⟩ := qk_el h10; clear h10
        obtain ⟨x15, S16, e17, h18⟩ := qc_el h14; clear h14
        refine xv_callV (pc := 45) (st := []) (as := [.int 46]) (v := none) (S' := S16) ok_X12_put (e_X12_put e17) (isb_el g13) (by decide) rfl (Nat.le_of_ble_eq_true rfl) rfl gw_1403 dX12_putValue_45 ?_
        refine ev_iinc (pc := 48) (L' := [some (.ref l0), none, some (.long l2), none, some (.int (l4 + (-8)))]) (i := 4) (v := (l4 + (-8))) rfl (congrArg (l4 + ·) (by decide)) (by decide) rfl rfl dX12_putValue_48 ?_
        refine ev_goto (pc := 51) (tgt := 20) (by decide) dX12_putValue_51 ?_
        exact (ev_weak (qL_s (qL_n (qL_s (qL_n (qL_s qL_nil))))) (ih _ _ _ _ _ h18))
theorem e_X12_putValue {X : gk_X} {F : Nat} {S : gk_S} {a : Nat} {p0 : Int32} {p1 : Int64} {r : (Unit × gk_S)} (h0 : f_X12_putValue F S a p0 p1 = some r) : EvM X m_X12_putValue 3 0 0 [.ref a, .int p0, .long p1] S (qRU r) := by
  unfold f_X12_putValue at h0
  refine ev_method (by decide +kernel) rfl rfl (Nat.le_of_ble_eq_true rfl) ?_
  show EvW X m_X12_putValue 3 0 0 0 [some (.ref a), some (.int p0), some (.long p1), none, none] [] S _
  refine ev_iload_n (pc := 0) (i := 1) rfl rfl dX12_putValue_0 ?_
  refine ev_iconst (pc := 1) (v := 2) (by decide) dX12_putValue_1 ?_
  refine ev_ic_eq (pc := 2) (tgt := 16) (by decide) dX12_putValue_2 (fun c1 => ?_) (fun c1 => ?_)
  · replace h0 := qi_t h0 c1
    refine ev_bipush (pc := 16) (v := 24) (by decide) dX12_putValue_16 ?_
    refine ev_istore (pc := 18) (L' := [some (.ref a), some (.int p0), some (.long p1), none, some (.int 24)]) (i := 4) (by decide) rfl rfl dX12_putValue_18 ?_
    exact ev_weak (qL_s (qL_n (qL_s (qL_n (qL_s qL_nil))))) (e_X12_putValue_20 F _ _ _ _ _ h0)
  · replace h0 := qi_f h0 c1
    refine ev_iload_n (pc := 5) (i := 1) rfl rfl dX12_putValue_5 ?_
    refine ev_iconst (pc := 6) (v := 3) (by decide) dX12_putValue_6 ?_
    refine ev_ic_eq (pc := 7) (tgt := 16) (by decide) dX12_putValue_7 (fun c19 => ?_) (fun c19 => ?_)
    · replace h0 := qi_t h0 c19
      refine ev_bipush (pc := 16) (v := 24) (by decide) dX12_putValue_16 ?_
      refine ev_istore (pc := 18) (L' := [some (.ref a), some (.int p0), some (.long p1), none, some (.int 24)]) (i := 4) (by decide) rfl rfl dX12_putValue_18 ?_
      exact ev_weak (qL_s (qL_n (qL_s (qL_n (qL_s qL_nil))))) (e_X12_putValue_20 F _ _ _ _ _ h0)
    · replace h0 := qi_f h0 c19
      refine ev_aload_n (pc := 10) (i := 0) rfl rfl rfl dX12_putValue_10 ?_
      refine ev_lload_n (pc := 11) (i := 2) rfl rfl dX12_putValue_11 ?_
      obtain ⟨g21, h22⟩ := qk_el h0; clear h0
      obtain ⟨x23, S24, e25, h26⟩ := qc_el h22; clear h22
      refine xv_callV (pc := 12) (st := []) (as := [.long p1]) (v := none) (S' := S24) ok_X12_putNumber (e_X12_putNumber e25) (isb_el g21) (by decide) rfl (Nat.le_of_ble_eq_true rfl) rfl gw_1415 dX12_putValue_12 ?_
      exact ev_return (pc := 15) rfl (qRU_eq h26) dX12_putValue_15
theorem dX12_writePart_0 : decode cX12_writePart 0 = .ok (.aload_n 0, 1) := by decide +kernel
theorem dX12_writePart_1 : decode cX12_writePart 1 = .ok (.getfield 36, 3) := by decide +kernel
theorem dX12_writePart_4 : decode cX12_writePart 4 = .ok (.iload_n 1, 1) := by decide +kernel
theorem dX12_writePart_5 : decode cX12_writePart 5 = .ok (.laload, 1) := by decide +kernel
theorem dX12_writePart_6 : decode cX12_writePart 6 = .ok (.lconst 0, 1) := by decide +kernel
theorem dX12_writePart_7 : decode cX12_writePart 7 = .ok (.lcmp, 1) := by decide +kernel
theorem dX12_writePart_8 : decode cX12_writePart 8 = .ok (.ifCond .ne 18, 3) := by decide +kernel
theorem dX12_writePart_11 : decode cX12_writePart 11 = .ok (.aload_n 0, 1) := by decide +kernel
theorem dX12_writePart_12 : decode cX12_writePart 12 = .ok (.getfield 40, 3) := by decide +kernel
theorem dX12_writePart_15 : decode cX12_writePart 15 = .ok (.iload_n 1, 1) := by decide +kernel
theorem dX12_writePart_16 : decode cX12_writePart 16 = .ok (.laload, 1) := by decide +kernel
theorem dX12_writePart_17 : decode cX12_writePart 17 = .ok (.iload_n 2, 1) := by decide +kernel
theorem dX12_writePart_18 : decode cX12_writePart 18 = .ok (.invokestatic 201, 3) := by decide +kernel
theorem dX12_writePart_21 : decode cX12_writePart 21 = .ok (.lcmp, 1) := by decide +kernel
theorem dX12_writePart_22 : decode cX12_writePart 22 = .ok (.ifCond .ne 4, 3) := by decide +kernel
theorem dX12_writePart_25 : decode cX12_writePart 25 = .ok (.return_, 1) := by decide +kernel
theorem dX12_writePart_26 : decode cX12_writePart 26 = .ok (.aload_n 0, 1) := by decide +kernel
theorem dX12_writePart_27 : decode cX12_writePart 27 = .ok (.bipush 32, 2) := by decide +kernel
theorem dX12_writePart_29 : decode cX12_writePart 29 = .ok (.invokevirtual 228, 3) := by decide +kernel
theorem dX12_writePart_32 : decode cX12_writePart 32 = .ok (.aload_n 0, 1) := by decide +kernel
theorem dX12_writePart_33 : decode cX12_writePart 33 = .ok (.iconst 4, 1) := by decide +kernel
theorem dX12_writePart_34 : decode cX12_writePart 34 = .ok (.iload_n 2, 1) := by decide +kernel
theorem dX12_writePart_35 : decode cX12_writePart 35 = .ok (.iadd, 1) := by decide +kernel
theorem dX12_writePart_36 : decode cX12_writePart 36 = .ok (.invokevirtual 237, 3) := by decide +kernel
theorem dX12_writePart_39 : decode cX12_writePart 39 = .ok (.aload_n 0, 1) := by decide +kernel
theorem dX12_writePart_40 : decode cX12_writePart 40 = .ok (.bipush 32, 2) := by decide +kernel
theorem dX12_writePart_42 : decode cX12_writePart 42 = .ok (.invokevirtual 228, 3) := by decide +kernel
theorem dX12_writePart_45 : decode cX12_writePart 45 = .ok (.aload_n 0, 1) := by decide +kernel
theorem dX12_writePart_46 : decode cX12_writePart 46 = .ok (.iload_n 2, 1) := by decide +kernel
theorem dX12_writePart_47 : decode cX12_writePart 47 = .ok (.aload_n 0, 1) := by decide +kernel
theorem dX12_writePart_48 : decode cX12_writePart 48 = .ok (.getfield 36, 3) := by decide +kernel
theorem dX12_writePart_51 : decode cX12_writePart 51 = .ok (.iload_n 1, 1) := by decide +kernel
theorem dX12_writePart_52 : decode cX12_writePart 52 = .ok (.laload, 1) := by decide +kernel
theorem dX12_writePart_53 : decode cX12_writePart 53 = .ok (.invokevirtual 246, 3) := by decide +kernel
theorem dX12_writePart_56 : decode cX12_writePart 56 = .ok (.aload_n 0, 1) := by decide +kernel
theorem dX12_writePart_57 : decode cX12_writePart 57 = .ok (.getfield 40, 3) := by decide +kernel
theorem dX12_writePart_60 : decode cX12_writePart 60 = .ok (.iload_n 1, 1) := by decide +kernel
theorem dX12_writePart_61 : decode cX12_writePart 61 = .ok (.laload, 1) := by decide +kernel
theorem dX12_writePart_62 : decode cX12_writePart 62 = .ok (.aload_n 0, 1) := by decide +kernel
theorem dX12_writePart_63 : decode cX12_writePart 63 = .ok (.getfield 36, 3) := by decide +kernel
theorem dX12_writePart_66 : decode cX12_writePart 66 = .ok (.iload_n 1, 1) := by decide +kernel
theorem dX12_writePart_67 : decode cX12_writePart 67 = .ok (.laload, 1) := by decide +kernel
theorem dX12_writePart_68 : decode cX12_writePart 68 = .ok (.lcmp, 1) := by decide +kernel
theorem dX12_writePart_69 : decode cX12_writePart 69 = .ok (.ifCond .ne 4, 3) := by decide +kernel
theorem dX12_writePart_72 : decode cX12_writePart 72 = .ok (.return_, 1) := by decide +kernel
theorem dX12_writePart_73 : decode cX12_writePart 73 = .ok (.aload_n 0, 1) := by decide +kernel
theorem dX12_writePart_74 : decode cX12_writePart 74 = .ok (.bipush 45, 2) := by decide +kernel
theorem dX12_writePart_76 : decode cX12_writePart 76 = .ok (.invokevirtual 228, 3) := by decide +kernel
theorem dX12_writePart_79 : decode cX12_writePart 79 = .ok (.aload_n 0, 1) := by decide +kernel
theorem dX12_writePart_80 : decode cX12_writePart 80 = .ok (.iload_n 2, 1) := by decide +kernel
theorem dX12_writePart_81 : decode cX12_writePart 81 = .ok (.aload_n 0, 1) := by decide +kernel
theorem dX12_writePart_82 : decode cX12_writePart 82 = .ok (.getfield 40, 3) := by decide +kernel
theorem dX12_writePart_85 : decode cX12_writePart 85 = .ok (.iload_n 1, 1) := by decide +kernel
theorem dX12_writePart_86 : decode cX12_writePart 86 = .ok (.laload, 1) := by decide +kernel
theorem dX12_writePart_87 : decode cX12_writePart 87 = .ok (.invokevirtual 246, 3) := by decide +kernel
theorem dX12_writePart_90 : decode cX12_writePart 90 = .ok (.return_, 1) := by decide +kernel
theorem e_X12_writePart_26 {X : gk_X} {F : Nat} {l0 : Nat} {l1 : Int32} {l2 : Int32} {S : gk_S} {r : (Unit × gk_S)} (h0 : f_X12_writePart_26 F l0 l1 l2 S = some r) : EvW X m_X12_writePart 6 0 0 26 [some (.ref l0), some (.int l1), some (.int l2)] [] S (qRU r) := by
  unfold f_X12_writePart_26 at h0
  refine ev_aload_n (pc := 26) (i := 0) rfl rfl rfl dX12_writePart_26 ?_
  refine ev_bipush (pc := 27) (v := 32) (by decide) dX12_writePart_27 ?_
  obtain ⟨g15, h16⟩ := qk_el h0; clear h0
  obtain ⟨x17, S18, e19, h20⟩ := qc_el h16; clear h16
  refine xv_callV (pc := 29) (st := []) (as := [.int 32]) (v := none) (S' := S18) ok_X12_put (e_X12_put e19) (isb_el g15) (by decide) rfl (Nat.le_of_ble_eq_true rfl) rfl gw_1403 dX12_writePart_29 ?_
  refine ev_aload_n (pc := 32) (i := 0) rfl rfl rfl dX12_writePart_32 ?_
  refine ev_iconst (pc := 33) (v := 4) (by decide) dX12_writePart_33 ?_
  refine ev_iload_n (pc := 34) (i := 2) rfl rfl dX12_writePart_34 ?_
  refine ev_iadd (pc := 35)  dX12_writePart_35 ?_
  obtain ⟨g21, h22⟩ := qk_el h20; clear h20
  obtain ⟨x23, S24, e25, h26⟩ := qc_el h22; clear h22
  refine xv_callV (pc := 36) (st := []) (as := [.int (4 + l2)]) (v := none) (S' := S24) ok_X12_putWord (e_X12_putWord e25) (isb_el g21) (by decide) rfl (Nat.le_of_ble_eq_true rfl) rfl gw_1399 dX12_writePart_36 ?_
  refine ev_aload_n (pc := 39) (i := 0) rfl rfl rfl dX12_writePart_39 ?_
  refine ev_bipush (pc := 40) (v := 32) (by decide) dX12_writePart_40 ?_
  obtain ⟨g27, h28⟩ := qk_el h26; clear h26
  obtain ⟨x29, S30, e31, h32⟩ := qc_el h28; clear h28
  refine xv_callV (pc := 42) (st := []) (as := [.int 32]) (v := none) (S' := S30) ok_X12_put (e_X12_put e31) (isb_el g27) (by decide) rfl (Nat.le_of_ble_eq_true rfl) rfl gw_1403 dX12_writePart_42 ?_
  refine ev_aload_n (pc := 45) (i := 0) rfl rfl rfl dX12_writePart_45 ?_
  refine ev_iload_n (pc := 46) (i := 2) rfl rfl dX12_writePart_46 ?_
  refine ev_aload_n (pc := 47) (i := 0) rfl rfl rfl dX12_writePart_47 ?_
  obtain ⟨g33, h34⟩ := qk_el h32; clear h32
  obtain ⟨b35, e36, h37⟩ := qP_el h34; clear h34
  refine xv_getP (pc := 48) fn_909 (isb_el g33) e36 gw_1149 dX12_writePart_48 ?_
  refine ev_iload_n (pc := 51) (i := 1) rfl rfl dX12_writePart_51 ?_
  obtain ⟨g38, h39⟩ := qk_el h37; clear h37
  obtain ⟨g40, h41⟩ := qk_el h39; clear h39
  obtain ⟨x42, e43, h44⟩ := qv_el h41; clear h41
  refine yv_lald (pc := 52) (isb_el g38) (inb_el g40) e43 dX12_writePart_52 ?_
  obtain ⟨x45, S46, e47, h48⟩ := qc_el h44; clear h44
  refine xv_callV (pc := 53) (st := []) (as := [.int l2, .long x42]) (v := none) (S' := S46) ok_X12_putValue (e_X12_putValue e47) (isb_el g33) (by decide) rfl (Nat.le_of_ble_eq_true rfl) rfl gw_1411 dX12_writePart_53 ?_
  refine ev_aload_n (pc := 56) (i := 0) rfl rfl rfl dX12_writePart_56 ?_
  obtain ⟨g49, h50⟩ := qk_el h48; clear h48
  obtain ⟨b51, e52, h53⟩ := qP_el h50; clear h50
  refine xv_getP (pc := 57) fn_910 (isb_el g49) e52 gw_1150 dX12_writePart_57 ?_
  refine ev_iload_n (pc := 60) (i := 1) rfl rfl dX12_writePart_60 ?_
  obtain ⟨g54, h55⟩ := qk_el h53; clear h53
  obtain ⟨g56, h57⟩ := qk_el h55; clear h55
  obtain ⟨x58, e59, h60⟩ := qv_el h57; clear h57
  refine yv_lald (pc := 61) (isb_el g54) (inb_el g56) e59 dX12_writePart_61 ?_
  refine ev_aload_n (pc := 62) (i := 0) rfl rfl rfl dX12_writePart_62 ?_
  obtain ⟨b61, e62, h63⟩ := qP_el h60; clear h60
  refine xv_getP (pc := 63) fn_909 (isb_el g49) e62 gw_1149 dX12_writePart_63 ?_
  refine ev_iload_n (pc := 66) (i := 1) rfl rfl dX12_writePart_66 ?_
  obtain ⟨g64, h65⟩ := qk_el h63; clear h63
  obtain ⟨g66, h67⟩ := qk_el h65; clear h65
  obtain ⟨x68, e69, h70⟩ := qv_el h67; clear h67
  refine yv_lald (pc := 67) (isb_el g64) (inb_el g66) e69 dX12_writePart_67 ?_
  refine ev_lcmp (pc := 68)  dX12_writePart_68 ?_
  refine ev_if_ne (pc := 69) (tgt := 73) (by decide) dX12_writePart_69 (fun c71 => ?_) (fun c71 => ?_)
  · replace h70 := qi_f h70 (lc_eqN c71)
    refine ev_aload_n (pc := 73) (i := 0) rfl rfl rfl dX12_writePart_73 ?_
    refine ev_bipush (pc := 74) (v := 45) (by decide) dX12_writePart_74 ?_
    obtain ⟨x73, S74, e75, h76⟩ := qc_el h70; clear h70
    refine xv_callV (pc := 76) (st := []) (as := [.int 45]) (v := none) (S' := S74) ok_X12_put (e_X12_put e75) (isb_el g49) (by decide) rfl (Nat.le_of_ble_eq_true rfl) rfl gw_1403 dX12_writePart_76 ?_
    refine ev_aload_n (pc := 79) (i := 0) rfl rfl rfl dX12_writePart_79 ?_
    refine ev_iload_n (pc := 80) (i := 2) rfl rfl dX12_writePart_80 ?_
    refine ev_aload_n (pc := 81) (i := 0) rfl rfl rfl dX12_writePart_81 ?_
    obtain ⟨g77, h78⟩ := qk_el h76; clear h76
    obtain ⟨b79, e80, h81⟩ := qP_el h78; clear h78
    refine xv_getP (pc := 82) fn_910 (isb_el g77) e80 gw_1150 dX12_writePart_82 ?_
    refine ev_iload_n (pc := 85) (i := 1) rfl rfl dX12_writePart_85 ?_
    obtain ⟨g82, h83⟩ := qk_el h81; clear h81
    obtain ⟨g84, h85⟩ := qk_el h83; clear h83
    obtain ⟨x86, e87, h88⟩ := qv_el h85; clear h85
    refine yv_lald (pc := 86) (isb_el g82) (inb_el g84) e87 dX12_writePart_86 ?_
    obtain ⟨x89, S90, e91, h92⟩ := qc_el h88; clear h88
    refine xv_callV (pc := 87) (st := []) (as := [.int l2, .long x86]) (v := none) (S' := S90) ok_X12_putValue (e_X12_putValue e91) (isb_el g77) (by decide) rfl (Nat.le_of_ble_eq_true rfl) rfl gw_1411 dX12_writePart_87 ?_
    exact ev_return (pc := 90) rfl (qRU_eq h92) dX12_writePart_90
  · replace h70 := qi_t h70 (lc_eq c71)
    exact ev_return (pc := 72) rfl (qRU_eq h70) dX12_writePart_72
theorem e_X12_writePart {X : gk_X} {F : Nat} {S : gk_S} {a : Nat} {p0 : Int32} {p1 : Int32} {r : (Unit × gk_S)} (h0 : f_X12_writePart F S a p0 p1 = some r) : EvM X m_X12_writePart 6 0 0 [.ref a, .int p0, .int p1] S (qRU r) := by
  unfold f_X12_writePart at h0
  refine ev_method (by decide +kernel) rfl rfl (Nat.le_of_ble_eq_true rfl) ?_
  show EvW X m_X12_writePart 6 0 0 0 [some (.ref a), some (.int p0), some (.int p1)] [] S _
  refine ev_aload_n (pc := 0) (i := 0) rfl rfl rfl dX12_writePart_0 ?_
  obtain ⟨g1, h2⟩ := qk_el h0; clear h0
  obtain ⟨b3, e4, h5⟩ := qP_el h2; clear h2
  refine xv_getP (pc := 1) fn_909 (isb_el g1) e4 gw_1149 dX12_writePart_1 ?_
  refine ev_iload_n (pc := 4) (i := 1) rfl rfl dX12_writePart_4 ?_
  obtain ⟨g6, h7⟩ := qk_el h5; clear h5
  obtain ⟨g8, h9⟩ := qk_el h7; clear h7
  obtain ⟨x10, e11, h12⟩ := qv_el h9; clear h9
  refine yv_lald (pc := 5) (isb_el g6) (inb_el g8) e11 dX12_writePart_5 ?_
  refine ev_lconst (pc := 6) (v := 0) (by decide) dX12_writePart_6 ?_
  refine ev_lcmp (pc := 7)  dX12_writePart_7 ?_
  refine ev_if_ne (pc := 8) (tgt := 26) (by decide) dX12_writePart_8 (fun c13 => ?_) (fun c13 => ?_)
  · replace h12 := qi_f h12 (lc_eqN c13)
    exact ev_weak (qL_s (qL_s (qL_s qL_nil))) (e_X12_writePart_26 h12)
  · replace h12 := qi_t h12 (lc_eq c13)
    refine ev_aload_n (pc := 11) (i := 0) rfl rfl rfl dX12_writePart_11 ?_
    obtain ⟨b93, e94, h95⟩ := qP_el h12; clear h12
    refine xv_getP (pc := 12) fn_910 (isb_el g1) e94 gw_1150 dX12_writePart_12 ?_
    refine ev_iload_n (pc := 15) (i := 1) rfl rfl dX12_writePart_15 ?_
    obtain ⟨g96, h97⟩ := qk_el h95; clear h95
    obtain ⟨g98, h99⟩ := qk_el h97; clear h97
    obtain ⟨x100, e101, h102⟩ := qv_el h99; clear h99
    refine yv_lald (pc := 16) (isb_el g96) (inb_el g98) e101 dX12_writePart_16 ?_
    refine ev_iload_n (pc := 17) (i := 2) rfl rfl dX12_writePart_17 ?_
    obtain ⟨x103, S104, e105, h106⟩ := qc_el h102; clear h102
    refine xv_callS (pc := 18) (st := [.long x100]) (as := [.int p1]) (v := (some (.long x103))) (S' := S104) ok_X12_most (e_X12_most e105) (by decide) rfl (Nat.le_of_ble_eq_true rfl) rfl gw_1344 dX12_writePart_18 ?_
    refine ev_lcmp (pc := 21)  dX12_writePart_21 ?_
    refine ev_if_ne (pc := 22) (tgt := 26) (by decide) dX12_writePart_22 (fun c107 => ?_) (fun c107 => ?_)
    · replace h106 := qi_f h106 (lc_eqN c107)
      exact ev_weak (qL_s (qL_s (qL_s qL_nil))) (e_X12_writePart_26 h106)
    · replace h106 := qi_t h106 (lc_eq c107)
      exact ev_return (pc := 25) rfl (qRU_eq h106) dX12_writePart_25
theorem dX12_writeStates_0 : decode cX12_writeStates 0 = .ok (.aload_n 0, 1) := by decide +kernel
theorem dX12_writeStates_1 : decode cX12_writeStates 1 = .ok (.bipush 32, 2) := by decide +kernel
theorem dX12_writeStates_3 : decode cX12_writeStates 3 = .ok (.invokevirtual 228, 3) := by decide +kernel
theorem dX12_writeStates_6 : decode cX12_writeStates 6 = .ok (.aload_n 0, 1) := by decide +kernel
theorem dX12_writeStates_7 : decode cX12_writeStates 7 = .ok (.bipush 10, 2) := by decide +kernel
theorem dX12_writeStates_9 : decode cX12_writeStates 9 = .ok (.invokevirtual 237, 3) := by decide +kernel
theorem dX12_writeStates_12 : decode cX12_writeStates 12 = .ok (.bipush 32, 2) := by decide +kernel
theorem dX12_writeStates_14 : decode cX12_writeStates 14 = .ok (.istore_n 2, 1) := by decide +kernel
theorem dX12_writeStates_15 : decode cX12_writeStates 15 = .ok (.iconst 0, 1) := by decide +kernel
theorem dX12_writeStates_16 : decode cX12_writeStates 16 = .ok (.istore_n 3, 1) := by decide +kernel
theorem dX12_writeStates_17 : decode cX12_writeStates 17 = .ok (.iload_n 3, 1) := by decide +kernel
theorem dX12_writeStates_18 : decode cX12_writeStates 18 = .ok (.iconst 4, 1) := by decide +kernel
theorem dX12_writeStates_19 : decode cX12_writeStates 19 = .ok (.if_icmp .ge 36, 3) := by decide +kernel
theorem dX12_writeStates_22 : decode cX12_writeStates 22 = .ok (.iload_n 1, 1) := by decide +kernel
theorem dX12_writeStates_23 : decode cX12_writeStates 23 = .ok (.iload_n 3, 1) := by decide +kernel
theorem dX12_writeStates_24 : decode cX12_writeStates 24 = .ok (.ishr, 1) := by decide +kernel
theorem dX12_writeStates_25 : decode cX12_writeStates 25 = .ok (.iconst 1, 1) := by decide +kernel
theorem dX12_writeStates_26 : decode cX12_writeStates 26 = .ok (.iand, 1) := by decide +kernel
theorem dX12_writeStates_27 : decode cX12_writeStates 27 = .ok (.ifCond .ne 6, 3) := by decide +kernel
theorem dX12_writeStates_30 : decode cX12_writeStates 30 = .ok (.goto 19, 3) := by decide +kernel
theorem dX12_writeStates_33 : decode cX12_writeStates 33 = .ok (.aload_n 0, 1) := by decide +kernel
theorem dX12_writeStates_34 : decode cX12_writeStates 34 = .ok (.iload_n 2, 1) := by decide +kernel
theorem dX12_writeStates_35 : decode cX12_writeStates 35 = .ok (.invokevirtual 228, 3) := by decide +kernel
theorem dX12_writeStates_38 : decode cX12_writeStates 38 = .ok (.aload_n 0, 1) := by decide +kernel
theorem dX12_writeStates_39 : decode cX12_writeStates 39 = .ok (.bipush 14, 2) := by decide +kernel
theorem dX12_writeStates_41 : decode cX12_writeStates 41 = .ok (.iload_n 3, 1) := by decide +kernel
theorem dX12_writeStates_42 : decode cX12_writeStates 42 = .ok (.iadd, 1) := by decide +kernel
theorem dX12_writeStates_43 : decode cX12_writeStates 43 = .ok (.invokevirtual 237, 3) := by decide +kernel
theorem dX12_writeStates_46 : decode cX12_writeStates 46 = .ok (.bipush 44, 2) := by decide +kernel
theorem dX12_writeStates_48 : decode cX12_writeStates 48 = .ok (.istore_n 2, 1) := by decide +kernel
theorem dX12_writeStates_49 : decode cX12_writeStates 49 = .ok (.iinc 3 1, 3) := by decide +kernel
theorem dX12_writeStates_52 : decode cX12_writeStates 52 = .ok (.goto (-35), 3) := by decide +kernel
theorem dX12_writeStates_55 : decode cX12_writeStates 55 = .ok (.return_, 1) := by decide +kernel
theorem e_X12_writeStates_17 {X : gk_X} {F : Nat} : ∀ (n : Nat) (l0 : Nat) (l1 : Int32) (l2 : Int32) (l3 : Int32) (S : gk_S) (r : (Unit × gk_S)), f_X12_writeStates_17 F n l0 l1 l2 l3 S = some r → EvW X m_X12_writeStates 6 0 0 17 [some (.ref l0), some (.int l1), some (.int l2), some (.int l3)] [] S (qRU r) := by
  intro n
  induction n with
  | zero => intro l0 l1 l2 l3 S r h0; rw [f_X12_writeStates_17] at h0; cases h0
  | succ n ih =>
    intro l0 l1 l2 l3 S r h0; rw [f_X12_writeStates_17] at h0
    refine ev_iload_n (pc := 17) (i := 3) rfl rfl dX12_writeStates_17 ?_
    refine ev_iconst (pc := 18) (v := 4) (by decide) dX12_writeStates_18 ?_
    refine ev_ic_ge (pc := 19) (tgt := 55) (by decide) dX12_writeStates_19 (fun c13 => ?_) (fun c13 => ?_)
    · replace h0 := qi_t h0 c13
      exact ev_return (pc := 55) rfl (qRU_eq h0) dX12_writeStates_55
    · replace h0 := qi_f h0 c13
      refine ev_iload_n (pc := 22) (i := 1) rfl rfl dX12_writeStates_22 ?_
      refine ev_iload_n (pc := 23) (i := 3) rfl rfl dX12_writeStates_23 ?_
      refine ev_ishr (pc := 24)  dX12_writeStates_24 ?_
      refine ev_iconst (pc := 25) (v := 1) (by decide) dX12_writeStates_25 ?_
      refine ev_iand (pc := 26)  dX12_writeStates_26 ?_
      refine ev_if_ne (pc := 27) (tgt := 33) (by decide) dX12_writeStates_27 (fun c15 => ?_) (fun c15 => ?_)
      · replace h0 := qi_f h0 c15
        refine ev_aload_n (pc := 33) (i := 0) rfl rfl rfl dX12_writeStates_33 ?_
        refine ev_iload_n (pc := 34) (i := 2) rfl rfl dX12_writeStates_34 ?_
        obtain ⟨g17, h18⟩ := qk_el h0; clear h0
        obtain ⟨x19, S20, e21, h22⟩ := qc_el h18; clear h18
        refine xv_callV (pc := 35) (st := []) (as := [.int l2]) (v := none) (S' := S20) ok_X12_put (e_X12_put e21) (isb_el g17) (by decide) rfl (Nat.le_of_ble_eq_true rfl) rfl gw_1403 dX12_writeStates_35 ?_
        refine ev_aload_n (pc := 38) (i := 0) rfl rfl rfl dX12_writeStates_38 ?_
        refine ev_bipush (pc := 39) (v := 14) (by decide) dX12_writeStates_39 ?_
        refine ev_iload_n (pc := 41) (i := 3) rfl rfl dX12_writeStates_41 ?_
        refine ev_iadd (pc := 42)  dX12_writeStates_42 ?_
        obtain ⟨g23, h24⟩ := qk_el h22; clear h22
        obtain ⟨x25, S26, e27, h28⟩ := qc_el h24; clear h24
        refine xv_callV (pc := 43) (st := []) (as := [.int (14 + l3)]) (v := none) (S' := S26) ok_X12_putWord (e_X12_putWord e27) (isb_el g23) (by decide) rfl (Nat.le_of_ble_eq_true rfl) rfl gw_1399 dX12_writeStates_43 ?_
        refine ev_bipush (pc := 46) (v := 44) (by decide) dX12_writeStates_46 ?_
        refine ev_istore_n (pc := 48) (L' := [some (.ref l0), some (.int l1), some (.int 44), some (.int l3)]) (i := 2) rfl (by decide) rfl rfl dX12_writeStates_48 ?_
        refine ev_iinc (pc := 49) (L' := [some (.ref l0), some (.int l1), some (.int 44), some (.int (l3 + 1))]) (i := 3) (v := (l3 + 1)) rfl rfl (by decide) rfl rfl dX12_writeStates_49 ?_
        refine ev_goto (pc := 52) (tgt := 17) (by decide) dX12_writeStates_52 ?_
        exact (ev_weak (qL_s (qL_s (qL_s (qL_s qL_nil)))) (ih _ _ _ _ _ _ h28))
      · replace h0 := qi_t h0 c15
        refine ev_goto (pc := 30) (tgt := 49) (by decide) dX12_writeStates_30 ?_
        refine ev_iinc (pc := 49) (L' := [some (.ref l0), some (.int l1), some (.int l2), some (.int (l3 + 1))]) (i := 3) (v := (l3 + 1)) rfl rfl (by decide) rfl rfl dX12_writeStates_49 ?_
        refine ev_goto (pc := 52) (tgt := 17) (by decide) dX12_writeStates_52 ?_
        exact (ev_weak (qL_s (qL_s (qL_s (qL_s qL_nil)))) (ih _ _ _ _ _ _ h0))
theorem e_X12_writeStates {X : gk_X} {F : Nat} {S : gk_S} {a : Nat} {p0 : Int32} {r : (Unit × gk_S)} (h0 : f_X12_writeStates F S a p0 = some r) : EvM X m_X12_writeStates 6 0 0 [.ref a, .int p0] S (qRU r) := by
  unfold f_X12_writeStates at h0
  refine ev_method (by decide +kernel) rfl rfl (Nat.le_of_ble_eq_true rfl) ?_
  show EvW X m_X12_writeStates 6 0 0 0 [some (.ref a), some (.int p0), none, none] [] S _
  refine ev_aload_n (pc := 0) (i := 0) rfl rfl rfl dX12_writeStates_0 ?_
  refine ev_bipush (pc := 1) (v := 32) (by decide) dX12_writeStates_1 ?_
  obtain ⟨g1, h2⟩ := qk_el h0; clear h0
  obtain ⟨x3, S4, e5, h6⟩ := qc_el h2; clear h2
  refine xv_callV (pc := 3) (st := []) (as := [.int 32]) (v := none) (S' := S4) ok_X12_put (e_X12_put e5) (isb_el g1) (by decide) rfl (Nat.le_of_ble_eq_true rfl) rfl gw_1403 dX12_writeStates_3 ?_
  refine ev_aload_n (pc := 6) (i := 0) rfl rfl rfl dX12_writeStates_6 ?_
  refine ev_bipush (pc := 7) (v := 10) (by decide) dX12_writeStates_7 ?_
  obtain ⟨g7, h8⟩ := qk_el h6; clear h6
  obtain ⟨x9, S10, e11, h12⟩ := qc_el h8; clear h8
  refine xv_callV (pc := 9) (st := []) (as := [.int 10]) (v := none) (S' := S10) ok_X12_putWord (e_X12_putWord e11) (isb_el g7) (by decide) rfl (Nat.le_of_ble_eq_true rfl) rfl gw_1399 dX12_writeStates_9 ?_
  refine ev_bipush (pc := 12) (v := 32) (by decide) dX12_writeStates_12 ?_
  refine ev_istore_n (pc := 14) (L' := [some (.ref a), some (.int p0), some (.int 32), none]) (i := 2) rfl (by decide) rfl rfl dX12_writeStates_14 ?_
  refine ev_iconst (pc := 15) (v := 0) (by decide) dX12_writeStates_15 ?_
  refine ev_istore_n (pc := 16) (L' := [some (.ref a), some (.int p0), some (.int 32), some (.int 0)]) (i := 3) rfl (by decide) rfl rfl dX12_writeStates_16 ?_
  exact ev_weak (qL_s (qL_s (qL_s (qL_s qL_nil)))) (e_X12_writeStates_17 F _ _ _ _ _ _ h12)
theorem dX12_write_0 : decode cX12_write 0 = .ok (.aload_n 0, 1) := by decide +kernel
theorem dX12_write_1 : decode cX12_write 1 = .ok (.iload_n 1, 1) := by decide +kernel
theorem dX12_write_2 : decode cX12_write 2 = .ok (.invokevirtual 222, 3) := by decide +kernel
theorem dX12_write_5 : decode cX12_write 5 = .ok (.ifCond .eq 5, 3) := by decide +kernel
theorem dX12_write_8 : decode cX12_write 8 = .ok (.iconst 0, 1) := by decide +kernel
theorem dX12_write_9 : decode cX12_write 9 = .ok (.ireturn, 1) := by decide +kernel
theorem dX12_write_10 : decode cX12_write 10 = .ok (.aload_n 0, 1) := by decide +kernel
theorem dX12_write_11 : decode cX12_write 11 = .ok (.iconst 0, 1) := by decide +kernel
theorem dX12_write_12 : decode cX12_write 12 = .ok (.putfield 225, 3) := by decide +kernel
theorem dX12_write_15 : decode cX12_write 15 = .ok (.aload_n 0, 1) := by decide +kernel
theorem dX12_write_16 : decode cX12_write 16 = .ok (.iconst 3, 1) := by decide +kernel
theorem dX12_write_17 : decode cX12_write 17 = .ok (.invokevirtual 237, 3) := by decide +kernel
theorem dX12_write_20 : decode cX12_write 20 = .ok (.aload_n 0, 1) := by decide +kernel
theorem dX12_write_21 : decode cX12_write 21 = .ok (.bipush 32, 2) := by decide +kernel
theorem dX12_write_23 : decode cX12_write 23 = .ok (.invokevirtual 228, 3) := by decide +kernel
theorem dX12_write_26 : decode cX12_write 26 = .ok (.aload_n 0, 1) := by decide +kernel
theorem dX12_write_27 : decode cX12_write 27 = .ok (.aload_n 0, 1) := by decide +kernel
theorem dX12_write_28 : decode cX12_write 28 = .ok (.getfield 43, 3) := by decide +kernel
theorem dX12_write_31 : decode cX12_write 31 = .ok (.iload_n 1, 1) := by decide +kernel
theorem dX12_write_32 : decode cX12_write 32 = .ok (.iaload, 1) := by decide +kernel
theorem dX12_write_33 : decode cX12_write 33 = .ok (.invokevirtual 237, 3) := by decide +kernel
theorem dX12_write_36 : decode cX12_write 36 = .ok (.aload_n 0, 1) := by decide +kernel
theorem dX12_write_37 : decode cX12_write 37 = .ok (.bipush 59, 2) := by decide +kernel
theorem dX12_write_39 : decode cX12_write 39 = .ok (.invokevirtual 228, 3) := by decide +kernel
theorem dX12_write_42 : decode cX12_write 42 = .ok (.aload_n 0, 1) := by decide +kernel
theorem dX12_write_43 : decode cX12_write 43 = .ok (.bipush 10, 2) := by decide +kernel
theorem dX12_write_45 : decode cX12_write 45 = .ok (.invokevirtual 228, 3) := by decide +kernel
theorem dX12_write_48 : decode cX12_write 48 = .ok (.iconst 0, 1) := by decide +kernel
theorem dX12_write_49 : decode cX12_write 49 = .ok (.istore_n 2, 1) := by decide +kernel
theorem dX12_write_50 : decode cX12_write 50 = .ok (.iload_n 2, 1) := by decide +kernel
theorem dX12_write_51 : decode cX12_write 51 = .ok (.aload_n 0, 1) := by decide +kernel
theorem dX12_write_52 : decode cX12_write 52 = .ok (.getfield 46, 3) := by decide +kernel
theorem dX12_write_55 : decode cX12_write 55 = .ok (.iload_n 1, 1) := by decide +kernel
theorem dX12_write_56 : decode cX12_write 56 = .ok (.iaload, 1) := by decide +kernel
theorem dX12_write_57 : decode cX12_write 57 = .ok (.if_icmp .ge 88, 3) := by decide +kernel
theorem dX12_write_60 : decode cX12_write 60 = .ok (.bipush 16, 2) := by decide +kernel
theorem dX12_write_62 : decode cX12_write 62 = .ok (.iload_n 1, 1) := by decide +kernel
theorem dX12_write_63 : decode cX12_write 63 = .ok (.imul, 1) := by decide +kernel
theorem dX12_write_64 : decode cX12_write 64 = .ok (.iload_n 2, 1) := by decide +kernel
theorem dX12_write_65 : decode cX12_write 65 = .ok (.iadd, 1) := by decide +kernel
theorem dX12_write_66 : decode cX12_write 66 = .ok (.istore_n 3, 1) := by decide +kernel
theorem dX12_write_67 : decode cX12_write 67 = .ok (.aload_n 0, 1) := by decide +kernel
theorem dX12_write_68 : decode cX12_write 68 = .ok (.aload_n 0, 1) := by decide +kernel
theorem dX12_write_69 : decode cX12_write 69 = .ok (.getfield 29, 3) := by decide +kernel
theorem dX12_write_72 : decode cX12_write 72 = .ok (.iload_n 3, 1) := by decide +kernel
theorem dX12_write_73 : decode cX12_write 73 = .ok (.iaload, 1) := by decide +kernel
theorem dX12_write_74 : decode cX12_write 74 = .ok (.invokevirtual 237, 3) := by decide +kernel
theorem dX12_write_77 : decode cX12_write 77 = .ok (.iconst 0, 1) := by decide +kernel
theorem dX12_write_78 : decode cX12_write 78 = .ok (.istore 4, 2) := by decide +kernel
theorem dX12_write_80 : decode cX12_write 80 = .ok (.iload 4, 2) := by decide +kernel
theorem dX12_write_82 : decode cX12_write 82 = .ok (.bipush 6, 2) := by decide +kernel
theorem dX12_write_84 : decode cX12_write 84 = .ok (.if_icmp .ge 22, 3) := by decide +kernel
theorem dX12_write_87 : decode cX12_write 87 = .ok (.aload_n 0, 1) := by decide +kernel
theorem dX12_write_88 : decode cX12_write 88 = .ok (.bipush 6, 2) := by decide +kernel
theorem dX12_write_90 : decode cX12_write 90 = .ok (.iload_n 3, 1) := by decide +kernel
theorem dX12_write_91 : decode cX12_write 91 = .ok (.imul, 1) := by decide +kernel
theorem dX12_write_92 : decode cX12_write 92 = .ok (.iload 4, 2) := by decide +kernel
theorem dX12_write_94 : decode cX12_write 94 = .ok (.iadd, 1) := by decide +kernel
theorem dX12_write_95 : decode cX12_write 95 = .ok (.iload 4, 2) := by decide +kernel
theorem dX12_write_97 : decode cX12_write 97 = .ok (.invokevirtual 240, 3) := by decide +kernel
theorem dX12_write_100 : decode cX12_write 100 = .ok (.iinc 4 1, 3) := by decide +kernel
theorem dX12_write_103 : decode cX12_write 103 = .ok (.goto (-23), 3) := by decide +kernel
theorem dX12_write_106 : decode cX12_write 106 = .ok (.aload_n 0, 1) := by decide +kernel
theorem dX12_write_107 : decode cX12_write 107 = .ok (.getfield 33, 3) := by decide +kernel
theorem dX12_write_110 : decode cX12_write 110 = .ok (.iload_n 3, 1) := by decide +kernel
theorem dX12_write_111 : decode cX12_write 111 = .ok (.iaload, 1) := by decide +kernel
theorem dX12_write_112 : decode cX12_write 112 = .ok (.bipush 15, 2) := by decide +kernel
theorem dX12_write_114 : decode cX12_write 114 = .ok (.if_icmp .eq 13, 3) := by decide +kernel
theorem dX12_write_117 : decode cX12_write 117 = .ok (.aload_n 0, 1) := by decide +kernel
theorem dX12_write_118 : decode cX12_write 118 = .ok (.aload_n 0, 1) := by decide +kernel
theorem dX12_write_119 : decode cX12_write 119 = .ok (.getfield 33, 3) := by decide +kernel
theorem dX12_write_122 : decode cX12_write 122 = .ok (.iload_n 3, 1) := by decide +kernel
theorem dX12_write_123 : decode cX12_write 123 = .ok (.iaload, 1) := by decide +kernel
theorem dX12_write_124 : decode cX12_write 124 = .ok (.invokevirtual 243, 3) := by decide +kernel
theorem dX12_write_127 : decode cX12_write 127 = .ok (.aload_n 0, 1) := by decide +kernel
theorem dX12_write_128 : decode cX12_write 128 = .ok (.bipush 59, 2) := by decide +kernel
theorem dX12_write_130 : decode cX12_write 130 = .ok (.invokevirtual 228, 3) := by decide +kernel
theorem dX12_write_133 : decode cX12_write 133 = .ok (.aload_n 0, 1) := by decide +kernel
theorem dX12_write_134 : decode cX12_write 134 = .ok (.bipush 10, 2) := by decide +kernel
theorem dX12_write_136 : decode cX12_write 136 = .ok (.invokevirtual 228, 3) := by decide +kernel
theorem dX12_write_139 : decode cX12_write 139 = .ok (.iinc 2 1, 3) := by decide +kernel
theorem dX12_write_142 : decode cX12_write 142 = .ok (.goto (-92), 3) := by decide +kernel
theorem dX12_write_145 : decode cX12_write 145 = .ok (.aload_n 0, 1) := by decide +kernel
theorem dX12_write_146 : decode cX12_write 146 = .ok (.getfield 225, 3) := by decide +kernel
theorem dX12_write_149 : decode cX12_write 149 = .ok (.ireturn, 1) := by decide +kernel
theorem e_X12_write_127 {X : gk_X} {F : Nat} {k50 : Nat → Int32 → Int32 → gk_S → Option (Int32 × gk_S)} (hk50 : ∀ (l0 : Nat) (l1 : Int32) (l2 : Int32) (S : gk_S) (r : (Int32 × gk_S)), k50 l0 l1 l2 S = some r → EvW X m_X12_write 7 0 0 50 [some (.ref l0), some (.int l1), some (.int l2), none, none] [] S (qRI r)) {l0 : Nat} {l1 : Int32} {l2 : Int32} {S : gk_S} {r : (Int32 × gk_S)} (h0 : f_X12_write_127 F k50 l0 l1 l2 S = some r) : EvW X m_X12_write 7 0 0 127 [some (.ref l0), some (.int l1), some (.int l2), none, none] [] S (qRI r) := by
  unfold f_X12_write_127 at h0
  refine ev_aload_n (pc := 127) (i := 0) rfl rfl rfl dX12_write_127 ?_
  refine ev_bipush (pc := 128) (v := 59) (by decide) dX12_write_128 ?_
  obtain ⟨g99, h100⟩ := qk_el h0; clear h0
  obtain ⟨x101, S102, e103, h104⟩ := qc_el h100; clear h100
  refine xv_callV (pc := 130) (st := []) (as := [.int 59]) (v := none) (S' := S102) ok_X12_put (e_X12_put e103) (isb_el g99) (by decide) rfl (Nat.le_of_ble_eq_true rfl) rfl gw_1403 dX12_write_130 ?_
  refine ev_aload_n (pc := 133) (i := 0) rfl rfl rfl dX12_write_133 ?_
  refine ev_bipush (pc := 134) (v := 10) (by decide) dX12_write_134 ?_
  obtain ⟨g105, h106⟩ := qk_el h104; clear h104
  obtain ⟨x107, S108, e109, h110⟩ := qc_el h106; clear h106
  refine xv_callV (pc := 136) (st := []) (as := [.int 10]) (v := none) (S' := S108) ok_X12_put (e_X12_put e109) (isb_el g105) (by decide) rfl (Nat.le_of_ble_eq_true rfl) rfl gw_1403 dX12_write_136 ?_
  refine ev_iinc (pc := 139) (L' := [some (.ref l0), some (.int l1), some (.int (l2 + 1)), none, none]) (i := 2) (v := (l2 + 1)) rfl rfl (by decide) rfl rfl dX12_write_139 ?_
  refine ev_goto (pc := 142) (tgt := 50) (by decide) dX12_write_142 ?_
  exact ev_weak (qL_s (qL_s (qL_s (qL_n (qL_n qL_nil))))) (hk50 _ _ _ _ _ h110)
theorem e_X12_write_80 {X : gk_X} {F : Nat} {k50 : Nat → Int32 → Int32 → gk_S → Option (Int32 × gk_S)} (hk50 : ∀ (l0 : Nat) (l1 : Int32) (l2 : Int32) (S : gk_S) (r : (Int32 × gk_S)), k50 l0 l1 l2 S = some r → EvW X m_X12_write 7 0 0 50 [some (.ref l0), some (.int l1), some (.int l2), none, none] [] S (qRI r)) : ∀ (n : Nat) (l0 : Nat) (l1 : Int32) (l2 : Int32) (l3 : Int32) (l4 : Int32) (S : gk_S) (r : (Int32 × gk_S)), f_X12_write_80 F k50 n l0 l1 l2 l3 l4 S = some r → EvW X m_X12_write 7 0 0 80 [some (.ref l0), some (.int l1), some (.int l2), some (.int l3), some (.int l4)] [] S (qRI r) := by
  intro n
  induction n with
  | zero => intro l0 l1 l2 l3 l4 S r h0; rw [f_X12_write_80] at h0; cases h0
  | succ n ih =>
    intro l0 l1 l2 l3 l4 S r h0; rw [f_X12_write_80] at h0
    refine ev_iload (pc := 80) (i := 4) rfl dX12_write_80 ?_
    refine ev_bipush (pc := 82) (v := 6) (by decide) dX12_write_82 ?_
    refine ev_ic_ge (pc := 84) (tgt := 106) (by decide) dX12_write_84 (fun c83 => ?_) (fun c83 => ?_)
    · replace h0 := qi_t h0 c83
      refine ev_aload_n (pc := 106) (i := 0) rfl rfl rfl dX12_write_106 ?_
      obtain ⟨g85, h86⟩ := qk_el h0; clear h0
      obtain ⟨b87, e88, h89⟩ := qP_el h86; clear h86
      refine xv_getP (pc := 107) fn_908 (isb_el g85) e88 gw_1148 dX12_write_107 ?_
      refine ev_iload_n (pc := 110) (i := 3) rfl rfl dX12_write_110 ?_
      obtain ⟨g90, h91⟩ := qk_el h89; clear h89
      obtain ⟨g92, h93⟩ := qk_el h91; clear h91
      obtain ⟨x94, e95, h96⟩ := qv_el h93; clear h93
      refine yv_iald (pc := 111) (isb_el g90) (inb_el g92) e95 dX12_write_111 ?_
      refine ev_bipush (pc := 112) (v := 15) (by decide) dX12_write_112 ?_
      refine ev_ic_eq (pc := 114) (tgt := 127) (by decide) dX12_write_114 (fun c97 => ?_) (fun c97 => ?_)
      · replace h96 := qi_t h96 c97
        exact ev_weak (qL_s (qL_s (qL_s (qL_n (qL_n qL_nil))))) (e_X12_write_127 hk50 h96)
      · replace h96 := qi_f h96 c97
        refine ev_aload_n (pc := 117) (i := 0) rfl rfl rfl dX12_write_117 ?_
        refine ev_aload_n (pc := 118) (i := 0) rfl rfl rfl dX12_write_118 ?_
        obtain ⟨b111, e112, h113⟩ := qP_el h96; clear h96
        refine xv_getP (pc := 119) fn_908 (isb_el g85) e112 gw_1148 dX12_write_119 ?_
        refine ev_iload_n (pc := 122) (i := 3) rfl rfl dX12_write_122 ?_
        obtain ⟨g114, h115⟩ := qk_el h113; clear h113
        obtain ⟨g116, h117⟩ := qk_el h115; clear h115
        obtain ⟨x118, e119, h120⟩ := qv_el h117; clear h117
        refine yv_iald (pc := 123) (isb_el g114) (inb_el g116) e119 dX12_write_123 ?_
        obtain ⟨x121, S122, e123, h124⟩ := qc_el h120; clear h120
        refine xv_callV (pc := 124) (st := []) (as := [.int x118]) (v := none) (S' := S122) ok_X12_writeStates (e_X12_writeStates e123) (isb_el g85) (by decide) rfl (Nat.le_of_ble_eq_true rfl) rfl gw_1420 dX12_write_124 ?_
        exact ev_weak (qL_s (qL_s (qL_s (qL_n (qL_n qL_nil))))) (e_X12_write_127 hk50 h124)
    · replace h0 := qi_f h0 c83
      refine ev_aload_n (pc := 87) (i := 0) rfl rfl rfl dX12_write_87 ?_
      refine ev_bipush (pc := 88) (v := 6) (by decide) dX12_write_88 ?_
      refine ev_iload_n (pc := 90) (i := 3) rfl rfl dX12_write_90 ?_
      refine ev_imul (pc := 91)  dX12_write_91 ?_
      refine ev_iload (pc := 92) (i := 4) rfl dX12_write_92 ?_
      refine ev_iadd (pc := 94)  dX12_write_94 ?_
      refine ev_iload (pc := 95) (i := 4) rfl dX12_write_95 ?_
      obtain ⟨g125, h126⟩ := qk_el h0; clear h0
      obtain ⟨x127, S128, e129, h130⟩ := qc_el h126; clear h126
      refine xv_callV (pc := 97) (st := []) (as := [.int ((6 * l3) + l4), .int l4]) (v := none) (S' := S128) ok_X12_writePart (e_X12_writePart e129) (isb_el g125) (by decide) rfl (Nat.le_of_ble_eq_true rfl) rfl gw_1407 dX12_write_97 ?_
      refine ev_iinc (pc := 100) (L' := [some (.ref l0), some (.int l1), some (.int l2), some (.int l3), some (.int (l4 + 1))]) (i := 4) (v := (l4 + 1)) rfl rfl (by decide) rfl rfl dX12_write_100 ?_
      refine ev_goto (pc := 103) (tgt := 80) (by decide) dX12_write_103 ?_
      exact (ev_weak (qL_s (qL_s (qL_s (qL_s (qL_s qL_nil))))) (ih _ _ _ _ _ _ _ h130))
theorem e_X12_write_50 {X : gk_X} {F : Nat} : ∀ (n : Nat) (l0 : Nat) (l1 : Int32) (l2 : Int32) (S : gk_S) (r : (Int32 × gk_S)), f_X12_write_50 F n l0 l1 l2 S = some r → EvW X m_X12_write 7 0 0 50 [some (.ref l0), some (.int l1), some (.int l2), none, none] [] S (qRI r) := by
  intro n
  induction n with
  | zero => intro l0 l1 l2 S r h0; rw [f_X12_write_50] at h0; cases h0
  | succ n ih =>
    intro l0 l1 l2 S r h0; rw [f_X12_write_50] at h0
    refine ev_iload_n (pc := 50) (i := 2) rfl rfl dX12_write_50 ?_
    refine ev_aload_n (pc := 51) (i := 0) rfl rfl rfl dX12_write_51 ?_
    obtain ⟨g52, h53⟩ := qk_el h0; clear h0
    obtain ⟨b54, e55, h56⟩ := qP_el h53; clear h53
    refine xv_getP (pc := 52) fn_906 (isb_el g52) e55 gw_1146 dX12_write_52 ?_
    refine ev_iload_n (pc := 55) (i := 1) rfl rfl dX12_write_55 ?_
    obtain ⟨g57, h58⟩ := qk_el h56; clear h56
    obtain ⟨g59, h60⟩ := qk_el h58; clear h58
    obtain ⟨x61, e62, h63⟩ := qv_el h60; clear h60
    refine yv_iald (pc := 56) (isb_el g57) (inb_el g59) e62 dX12_write_56 ?_
    refine ev_ic_ge (pc := 57) (tgt := 145) (by decide) dX12_write_57 (fun c64 => ?_) (fun c64 => ?_)
    · replace h63 := qi_t h63 c64
      refine ev_aload_n (pc := 145) (i := 0) rfl rfl rfl dX12_write_145 ?_
      obtain ⟨x66, e67, h68⟩ := qv_el h63; clear h63
      refine xv_getIv (pc := 146) fn_921 (isb_el g52) e67 gw_1161 dX12_write_146 ?_
      exact ev_ireturn (pc := 149) rfl (nar_int _) (qRI_eq h68) dX12_write_149
    · replace h63 := qi_f h63 c64
      refine ev_bipush (pc := 60) (v := 16) (by decide) dX12_write_60 ?_
      refine ev_iload_n (pc := 62) (i := 1) rfl rfl dX12_write_62 ?_
      refine ev_imul (pc := 63)  dX12_write_63 ?_
      refine ev_iload_n (pc := 64) (i := 2) rfl rfl dX12_write_64 ?_
      refine ev_iadd (pc := 65)  dX12_write_65 ?_
      refine ev_istore_n (pc := 66) (L' := [some (.ref l0), some (.int l1), some (.int l2), some (.int ((16 * l1) + l2)), none]) (i := 3) rfl (by decide) rfl rfl dX12_write_66 ?_
      refine ev_aload_n (pc := 67) (i := 0) rfl rfl rfl dX12_write_67 ?_
      refine ev_aload_n (pc := 68) (i := 0) rfl rfl rfl dX12_write_68 ?_
      obtain ⟨b69, e70, h71⟩ := qP_el h63; clear h63
      refine xv_getP (pc := 69) fn_907 (isb_el g52) e70 gw_1147 dX12_write_69 ?_
      refine ev_iload_n (pc := 72) (i := 3) rfl rfl dX12_write_72 ?_
      obtain ⟨g72, h73⟩ := qk_el h71; clear h71
      obtain ⟨g74, h75⟩ := qk_el h73; clear h73
      obtain ⟨x76, e77, h78⟩ := qv_el h75; clear h75
      refine yv_iald (pc := 73) (isb_el g72) (inb_el g74) e77 dX12_write_73 ?_
      obtain ⟨x79, S80, e81, h82⟩ := qc_el h78; clear h78
      refine xv_callV (pc := 74) (st := []) (as := [.int x76]) (v := none) (S' := S80) ok_X12_putWord (e_X12_putWord e81) (isb_el g52) (by decide) rfl (Nat.le_of_ble_eq_true rfl) rfl gw_1399 dX12_write_74 ?_
      refine ev_iconst (pc := 77) (v := 0) (by decide) dX12_write_77 ?_
      refine ev_istore (pc := 78) (L' := [some (.ref l0), some (.int l1), some (.int l2), some (.int ((16 * l1) + l2)), some (.int 0)]) (i := 4) (by decide) rfl rfl dX12_write_78 ?_
      exact ev_weak (qL_s (qL_s (qL_s (qL_s (qL_s qL_nil))))) (e_X12_write_80 ih F _ _ _ _ _ _ _ h82)
theorem e_X12_write {X : gk_X} {F : Nat} {S : gk_S} {a : Nat} {p0 : Int32} {r : (Int32 × gk_S)} (h0 : f_X12_write F S a p0 = some r) : EvM X m_X12_write 7 0 0 [.ref a, .int p0] S (qRI r) := by
  unfold f_X12_write at h0
  refine ev_method (by decide +kernel) rfl rfl (Nat.le_of_ble_eq_true rfl) ?_
  show EvW X m_X12_write 7 0 0 0 [some (.ref a), some (.int p0), none, none, none] [] S _
  refine ev_aload_n (pc := 0) (i := 0) rfl rfl rfl dX12_write_0 ?_
  refine ev_iload_n (pc := 1) (i := 1) rfl rfl dX12_write_1 ?_
  obtain ⟨g1, h2⟩ := qk_el h0; clear h0
  obtain ⟨x3, S4, e5, h6⟩ := qc_el h2; clear h2
  refine xv_callV (pc := 2) (st := []) (as := [.int p0]) (v := (some (.int x3))) (S' := S4) ok_X12_noList (e_X12_noList e5) (isb_el g1) (by decide) rfl (Nat.le_of_ble_eq_true rfl) rfl gw_1387 dX12_write_2 ?_
  refine ev_if_eq (pc := 5) (tgt := 10) (by decide) dX12_write_5 (fun c7 => ?_) (fun c7 => ?_)
  · replace h6 := qi_t h6 c7
    refine ev_aload_n (pc := 10) (i := 0) rfl rfl rfl dX12_write_10 ?_
    refine ev_iconst (pc := 11) (v := 0) (by decide) dX12_write_11 ?_
    obtain ⟨g9, h10⟩ := qk_el h6; clear h6
    obtain ⟨S11, e12, h13⟩ := qv_el h10; clear h10
    refine yv_putI (pc := 12) fn_921 ⟨rfl, rfl⟩ (isb_el g9) e12 gw_1161 dX12_write_12 ?_
    refine ev_aload_n (pc := 15) (i := 0) rfl rfl rfl dX12_write_15 ?_
    refine ev_iconst (pc := 16) (v := 3) (by decide) dX12_write_16 ?_
    obtain ⟨x14, S15, e16, h17⟩ := qc_el h13; clear h13
    refine xv_callV (pc := 17) (st := []) (as := [.int 3]) (v := none) (S' := S15) ok_X12_putWord (e_X12_putWord e16) (is_sI (isb_el g9) e12) (by decide) rfl (Nat.le_of_ble_eq_true rfl) rfl gw_1399 dX12_write_17 ?_
    refine ev_aload_n (pc := 20) (i := 0) rfl rfl rfl dX12_write_20 ?_
    refine ev_bipush (pc := 21) (v := 32) (by decide) dX12_write_21 ?_
    obtain ⟨g18, h19⟩ := qk_el h17; clear h17
    obtain ⟨x20, S21, e22, h23⟩ := qc_el h19; clear h19
    refine xv_callV (pc := 23) (st := []) (as := [.int 32]) (v := none) (S' := S21) ok_X12_put (e_X12_put e22) (isb_el g18) (by decide) rfl (Nat.le_of_ble_eq_true rfl) rfl gw_1403 dX12_write_23 ?_
    refine ev_aload_n (pc := 26) (i := 0) rfl rfl rfl dX12_write_26 ?_
    refine ev_aload_n (pc := 27) (i := 0) rfl rfl rfl dX12_write_27 ?_
    obtain ⟨g24, h25⟩ := qk_el h23; clear h23
    obtain ⟨b26, e27, h28⟩ := qP_el h25; clear h25
    refine xv_getP (pc := 28) fn_905 (isb_el g24) e27 gw_1145 dX12_write_28 ?_
    refine ev_iload_n (pc := 31) (i := 1) rfl rfl dX12_write_31 ?_
    obtain ⟨g29, h30⟩ := qk_el h28; clear h28
    obtain ⟨g31, h32⟩ := qk_el h30; clear h30
    obtain ⟨x33, e34, h35⟩ := qv_el h32; clear h32
    refine yv_iald (pc := 32) (isb_el g29) (inb_el g31) e34 dX12_write_32 ?_
    obtain ⟨x36, S37, e38, h39⟩ := qc_el h35; clear h35
    refine xv_callV (pc := 33) (st := []) (as := [.int x33]) (v := none) (S' := S37) ok_X12_putWord (e_X12_putWord e38) (isb_el g24) (by decide) rfl (Nat.le_of_ble_eq_true rfl) rfl gw_1399 dX12_write_33 ?_
    refine ev_aload_n (pc := 36) (i := 0) rfl rfl rfl dX12_write_36 ?_
    refine ev_bipush (pc := 37) (v := 59) (by decide) dX12_write_37 ?_
    obtain ⟨g40, h41⟩ := qk_el h39; clear h39
    obtain ⟨x42, S43, e44, h45⟩ := qc_el h41; clear h41
    refine xv_callV (pc := 39) (st := []) (as := [.int 59]) (v := none) (S' := S43) ok_X12_put (e_X12_put e44) (isb_el g40) (by decide) rfl (Nat.le_of_ble_eq_true rfl) rfl gw_1403 dX12_write_39 ?_
    refine ev_aload_n (pc := 42) (i := 0) rfl rfl rfl dX12_write_42 ?_
    refine ev_bipush (pc := 43) (v := 10) (by decide) dX12_write_43 ?_
    obtain ⟨g46, h47⟩ := qk_el h45; clear h45
    obtain ⟨x48, S49, e50, h51⟩ := qc_el h47; clear h47
    refine xv_callV (pc := 45) (st := []) (as := [.int 10]) (v := none) (S' := S49) ok_X12_put (e_X12_put e50) (isb_el g46) (by decide) rfl (Nat.le_of_ble_eq_true rfl) rfl gw_1403 dX12_write_45 ?_
    refine ev_iconst (pc := 48) (v := 0) (by decide) dX12_write_48 ?_
    refine ev_istore_n (pc := 49) (L' := [some (.ref a), some (.int p0), some (.int 0), none, none]) (i := 2) rfl (by decide) rfl rfl dX12_write_49 ?_
    exact ev_weak (qL_s (qL_s (qL_s (qL_n (qL_n qL_nil))))) (e_X12_write_50 F _ _ _ _ _ h51)
  · replace h6 := qi_f h6 c7
    refine ev_iconst (pc := 8) (v := 0) (by decide) dX12_write_8 ?_
    exact ev_ireturn (pc := 9) rfl (nar_int _) (qRI_eq h6) dX12_write_9
theorem dX11_octet_0 : decode cX11_octet 0 = .ok (.iload_n 1, 1) := by decide +kernel
theorem dX11_octet_1 : decode cX11_octet 1 = .ok (.ifCond .lt 14, 3) := by decide +kernel
theorem dX11_octet_4 : decode cX11_octet 4 = .ok (.iload_n 1, 1) := by decide +kernel
theorem dX11_octet_5 : decode cX11_octet 5 = .ok (.aload_n 0, 1) := by decide +kernel
theorem dX11_octet_6 : decode cX11_octet 6 = .ok (.getfield 18, 3) := by decide +kernel
theorem dX11_octet_9 : decode cX11_octet 9 = .ok (.getfield 83, 3) := by decide +kernel
theorem dX11_octet_12 : decode cX11_octet 12 = .ok (.if_icmp .lt 13, 3) := by decide +kernel
theorem dX11_octet_15 : decode cX11_octet 15 = .ok (.new 112, 3) := by decide +kernel
theorem dX11_octet_18 : decode cX11_octet 18 = .ok (.dup, 1) := by decide +kernel
theorem dX11_octet_19 : decode cX11_octet 19 = .ok (.ldc 135, 2) := by decide +kernel
theorem dX11_octet_21 : decode cX11_octet 21 = .ok (.invokespecial 116, 3) := by decide +kernel
theorem dX11_octet_24 : decode cX11_octet 24 = .ok (.athrow, 1) := by decide +kernel
theorem dX11_octet_25 : decode cX11_octet 25 = .ok (.aload_n 0, 1) := by decide +kernel
theorem dX11_octet_26 : decode cX11_octet 26 = .ok (.getfield 18, 3) := by decide +kernel
theorem dX11_octet_29 : decode cX11_octet 29 = .ok (.iload_n 1, 1) := by decide +kernel
theorem dX11_octet_30 : decode cX11_octet 30 = .ok (.invokevirtual 137, 3) := by decide +kernel
theorem dX11_octet_33 : decode cX11_octet 33 = .ok (.ireturn, 1) := by decide +kernel
theorem e_X11_octet_15 {X : gk_X} {F : Nat} {k j : Nat}  {S : gk_S} {r : ((Int32 ⊕ String) × gk_S)} (hb : qb r k j) (h0 : f_X11_octet_15 F  S = some r) : EvW X m_X11_octet 6 k j 15 [none, none] [] S (qXI r) := by
  unfold f_X11_octet_15 at h0
  cases h0
  exact ev_throwN (pc := 15) (i := 23) (by decide) rfl rfl rfl rfl gw_680 gw_19 rfl (by decide) (by decide) (qb_inr hb).1 (qb_inr hb).2 rfl dX11_octet_15 dX11_octet_18 dX11_octet_19 dX11_octet_21 dX11_octet_24
theorem e_X11_octet {X : gk_X} {F : Nat} {k j : Nat} {S : gk_S} {a : Nat} {p0 : Int32} {r : ((Int32 ⊕ String) × gk_S)} (hb : qb r k j) (h0 : f_X11_octet F S a p0 = some r) : EvM X m_X11_octet 6 k j [.ref a, .int p0] S (qXI r) := by
  unfold f_X11_octet at h0
  refine ev_method (by decide +kernel) rfl rfl (Nat.le_of_ble_eq_true rfl) ?_
  show EvW X m_X11_octet 6 k j 0 [some (.ref a), some (.int p0)] [] S _
  refine ev_iload_n (pc := 0) (i := 1) rfl rfl dX11_octet_0 ?_
  refine ev_if_lt (pc := 1) (tgt := 15) (by decide) dX11_octet_1 (fun c1 => ?_) (fun c1 => ?_)
  · replace h0 := qi_t h0 c1
    exact ev_weak (qL_n (qL_n qL_nil)) (e_X11_octet_15 hb h0)
  · replace h0 := qi_f h0 c1
    refine ev_iload_n (pc := 4) (i := 1) rfl rfl dX11_octet_4 ?_
    refine ev_aload_n (pc := 5) (i := 0) rfl rfl rfl dX11_octet_5 ?_
    obtain ⟨g3, h4⟩ := qk_el h0; clear h0
    obtain ⟨b5, e6, h7⟩ := qP_el h4; clear h4
    refine xv_getP (pc := 6) fn_801 (isb_el g3) e6 gw_283 dX11_octet_6 ?_
    obtain ⟨g8, h9⟩ := qk_el h7; clear h7
    obtain ⟨x10, e11, h12⟩ := qv_el h9; clear h9
    refine xv_getIv (pc := 9) fn_101 (isb_el g8) e11 gw_42 dX11_octet_9 ?_
    refine ev_ic_lt (pc := 12) (tgt := 25) (by decide) dX11_octet_12 (fun c13 => ?_) (fun c13 => ?_)
    · replace h12 := qi_t h12 c13
      refine ev_aload_n (pc := 25) (i := 0) rfl rfl rfl dX11_octet_25 ?_
      obtain ⟨b15, e16, h17⟩ := qP_el h12; clear h12
      refine xv_getP (pc := 26) fn_801 (isb_el g3) e16 gw_283 dX11_octet_26 ?_
      refine ev_iload_n (pc := 29) (i := 1) rfl rfl dX11_octet_29 ?_
      obtain ⟨g18, h19⟩ := qk_el h17; clear h17
      obtain ⟨x20, S21, e22, h23⟩ := qc_el h19; clear h19
      refine xv_callV (pc := 30) (st := []) (as := [.int p0]) (v := (some (.int x20))) (S' := S21) ok_X2_at (e_X2_at e22) (isb_el g18) (by decide) rfl (Nat.le_of_ble_eq_true rfl) rfl gw_764 dX11_octet_30 ?_
      cases h23
      exact ev_ireturn (pc := 33) rfl (nar_int _) rfl dX11_octet_33
    · replace h12 := qi_f h12 c13
      exact ev_weak (qL_n (qL_n qL_nil)) (e_X11_octet_15 hb h12)
theorem dL_octet_0 : decode cL_octet 0 = .ok (.aload_n 2, 1) := by decide +kernel
theorem dL_octet_1 : decode cL_octet 1 = .ok (.iconst 0, 1) := by decide +kernel
theorem dL_octet_2 : decode cL_octet 2 = .ok (.aload_n 0, 1) := by decide +kernel
theorem dL_octet_3 : decode cL_octet 3 = .ok (.iload_n 1, 1) := by decide +kernel
theorem dL_octet_4 : decode cL_octet 4 = .ok (.invokevirtual 27, 3) := by decide +kernel
theorem dL_octet_7 : decode cL_octet 7 = .ok (.i2l, 1) := by decide +kernel
theorem dL_octet_8 : decode cL_octet 8 = .ok (.lastore, 1) := by decide +kernel
theorem dL_octet_9 : decode cL_octet 9 = .ok (.goto 6, 3) := by decide +kernel
theorem dL_octet_12 : decode cL_octet 12 = .ok (.astore_n 3, 1) := by decide +kernel
theorem dL_octet_13 : decode cL_octet 13 = .ok (.iconst 1, 1) := by decide +kernel
theorem dL_octet_14 : decode cL_octet 14 = .ok (.ireturn, 1) := by decide +kernel
theorem dL_octet_15 : decode cL_octet 15 = .ok (.iconst 0, 1) := by decide +kernel
theorem dL_octet_16 : decode cL_octet 16 = .ok (.ireturn, 1) := by decide +kernel
theorem e_L_octet {X : gk_X} {F : Nat} {k j : Nat} {S : gk_S} {p0 : Nat} {p1 : Int32} {p2 : Nat} {r : (Int32 × gk_S)} (hb : r.1 = 0 ∨ (1 ≤ k ∧ 6 ≤ j)) (h0 : f_L_octet F S p0 p1 p2 = some r) : EvM X m_L_octet 7 k j [.ref p0, .int p1, .ref p2] S (qRI r) := by
  unfold f_L_octet at h0
  refine ev_methodH (by decide +kernel) (by decide) rfl (Nat.le_of_ble_eq_true rfl) ?_
  show EvW X m_L_octet 7 k j 0 [some (.ref p0), some (.int p1), some (.ref p2), none] [] S _
  refine ev_aload_n (pc := 0) (i := 2) rfl rfl rfl dL_octet_0 ?_
  refine ev_iconst (pc := 1) (v := 0) (by decide) dL_octet_1 ?_
  refine ev_aload_n (pc := 2) (i := 0) rfl rfl rfl dL_octet_2 ?_
  refine ev_iload_n (pc := 3) (i := 1) rfl rfl dL_octet_3 ?_
  obtain ⟨g1, h2⟩ := qk_el h0; clear h0
  rcases qh_el h2 with ⟨E7, T8, e5, h6⟩ | ⟨x3, S4, e5, h6⟩
  · by_cases c9 : E7 = gx_E
    · replace h6 := qi_t h6 c9; subst c9
      have hb9 : 1 ≤ k ∧ 6 ≤ j := by cases h6; exact hb.resolve_left (show ¬ (1 : Int32) = 0 by decide)
      refine yv_catV (pc := 4) (st := [.int 0, .ref p2]) (as := [.int p1]) (i9 := 3) (len9 := 1) (pre := []) (suf := []) (x := (0, 9, 12, 22)) (name := "java/util/NoSuchElementException") ok_X11_octet (e_X11_octet (k := k) (j := j) (fun _ _ => hb9) e5) (isb_el g1) rfl (by intro z hz; cases hz) (by decide) (by decide) (by decide) gw_672 (by decide +kernel) (.inr ⟨3, rfl, rfl, rfl⟩) (by decide) rfl (gl9 rfl) (by decide) rfl (Nat.le_of_ble_eq_true rfl) rfl gw_759 dL_octet_4 dL_octet_12 ?_
      refine ev_iconst (pc := 13) (v := 1) (by decide) dL_octet_13 ?_
      exact ev_ireturn (pc := 14) rfl rfl (by cases h6; rfl) dL_octet_14
    replace h6 := qi_f h6 c9
    cases h6
  clear h2
  refine xv_callV (pc := 4) (st := [.int 0, .ref p2]) (as := [.int p1]) (v := (some (.int x3))) (S' := S4) ok_X11_octet (e_X11_octet (k := 0) (j := 0) qb_inl e5) (isb_el g1) (by decide) rfl (Nat.le_of_ble_eq_true rfl) rfl gw_759 dL_octet_4 ?_
  refine ev_i2l (pc := 7)  dL_octet_7 ?_
  obtain ⟨g10, h11⟩ := qk_el h6; clear h6
  obtain ⟨g12, h13⟩ := qk_el h11; clear h11
  obtain ⟨S14, e15, h16⟩ := qv_el h13; clear h13
  refine yv_last (pc := 8) (isb_el g10) (inb_el g12) e15 dL_octet_8 ?_
  refine ev_goto (pc := 9) (tgt := 15) (by decide) dL_octet_9 ?_
  refine ev_iconst (pc := 15) (v := 0) (by decide) dL_octet_15 ?_
  exact ev_ireturn (pc := 16) rfl (nar_int _) (qRI_eq h16) dL_octet_16
theorem dX12_octet_0 : decode cX12_octet 0 = .ok (.aload_n 0, 1) := by decide +kernel
theorem dX12_octet_1 : decode cX12_octet 1 = .ok (.iload_n 1, 1) := by decide +kernel
theorem dX12_octet_2 : decode cX12_octet 2 = .ok (.ifCond .lt 11, 3) := by decide +kernel
theorem dX12_octet_5 : decode cX12_octet 5 = .ok (.iload_n 1, 1) := by decide +kernel
theorem dX12_octet_6 : decode cX12_octet 6 = .ok (.aload_n 0, 1) := by decide +kernel
theorem dX12_octet_7 : decode cX12_octet 7 = .ok (.getfield 225, 3) := by decide +kernel
theorem dX12_octet_10 : decode cX12_octet 10 = .ok (.if_icmp .lt 7, 3) := by decide +kernel
theorem dX12_octet_13 : decode cX12_octet 13 = .ok (.iconst 1, 1) := by decide +kernel
theorem dX12_octet_14 : decode cX12_octet 14 = .ok (.goto 4, 3) := by decide +kernel
theorem dX12_octet_17 : decode cX12_octet 17 = .ok (.iconst 0, 1) := by decide +kernel
theorem dX12_octet_18 : decode cX12_octet 18 = .ok (.iconst 1, 1) := by decide +kernel
theorem dX12_octet_19 : decode cX12_octet 19 = .ok (.invokevirtual 176, 3) := by decide +kernel
theorem dX12_octet_22 : decode cX12_octet 22 = .ok (.ifCond .eq 7, 3) := by decide +kernel
theorem dX12_octet_25 : decode cX12_octet 25 = .ok (.iconst 0, 1) := by decide +kernel
theorem dX12_octet_26 : decode cX12_octet 26 = .ok (.goto 13, 3) := by decide +kernel
theorem dX12_octet_29 : decode cX12_octet 29 = .ok (.aload_n 0, 1) := by decide +kernel
theorem dX12_octet_30 : decode cX12_octet 30 = .ok (.getfield 68, 3) := by decide +kernel
theorem dX12_octet_33 : decode cX12_octet 33 = .ok (.iload_n 1, 1) := by decide +kernel
theorem dX12_octet_34 : decode cX12_octet 34 = .ok (.baload, 1) := by decide +kernel
theorem dX12_octet_35 : decode cX12_octet 35 = .ok (.sipush 255, 3) := by decide +kernel
theorem dX12_octet_38 : decode cX12_octet 38 = .ok (.iand, 1) := by decide +kernel
theorem dX12_octet_39 : decode cX12_octet 39 = .ok (.ireturn, 1) := by decide +kernel
theorem e_X12_octet_18 {X : gk_X} {F : Nat} {l0 : Nat} {l1 : Int32} {s0 : Int32} {s1 : Nat} {S : gk_S} {r : (Int32 × gk_S)} (h0 : f_X12_octet_18 F l0 l1 s0 s1 S = some r) : EvW X m_X12_octet 2 0 0 18 [some (.ref l0), some (.int l1)] [.int s0, .ref s1] S (qRI r) := by
  unfold f_X12_octet_18 at h0
  refine ev_iconst (pc := 18) (v := 1) (by decide) dX12_octet_18 ?_
  obtain ⟨g3, h4⟩ := qk_el h0; clear h0
  obtain ⟨x5, S6, e7, h8⟩ := qc_el h4; clear h4
  refine xv_callV (pc := 19) (st := []) (as := [.int s0, .int 1]) (v := (some (.int x5))) (S' := S6) ok_X12_throwsIf (e_X12_throwsIf e7) (isb_el g3) (by decide) rfl (Nat.le_of_ble_eq_true rfl) rfl gw_1272 dX12_octet_19 ?_
  refine ev_if_eq (pc := 22) (tgt := 29) (by decide) dX12_octet_22 (fun c9 => ?_) (fun c9 => ?_)
  · replace h8 := qi_t h8 c9
    refine ev_aload_n (pc := 29) (i := 0) rfl rfl rfl dX12_octet_29 ?_
    obtain ⟨g11, h12⟩ := qk_el h8; clear h8
    obtain ⟨b13, e14, h15⟩ := qP_el h12; clear h12
    refine xv_getP (pc := 30) fn_920 (isb_el g11) e14 gw_1160 dX12_octet_30 ?_
    refine ev_iload_n (pc := 33) (i := 1) rfl rfl dX12_octet_33 ?_
    obtain ⟨g16, h17⟩ := qk_el h15; clear h15
    obtain ⟨g18, h19⟩ := qk_el h17; clear h17
    obtain ⟨x20, e21, h22⟩ := qv_el h19; clear h19
    refine yv_bald (pc := 34) (isb_el g16) (inb_el g18) e21 dX12_octet_34 ?_
    refine ev_sipush (pc := 35) (v := 255) (by decide) dX12_octet_35 ?_
    refine ev_iand (pc := 38)  dX12_octet_38 ?_
    exact ev_ireturn (pc := 39) rfl (nar_int _) (qRI_eq h22) dX12_octet_39
  · replace h8 := qi_f h8 c9
    refine ev_iconst (pc := 25) (v := 0) (by decide) dX12_octet_25 ?_
    refine ev_goto (pc := 26) (tgt := 39) (by decide) dX12_octet_26 ?_
    exact ev_ireturn (pc := 39) rfl (nar_int _) (qRI_eq h8) dX12_octet_39
theorem e_X12_octet {X : gk_X} {F : Nat} {S : gk_S} {a : Nat} {p0 : Int32} {r : (Int32 × gk_S)} (h0 : f_X12_octet F S a p0 = some r) : EvM X m_X12_octet 2 0 0 [.ref a, .int p0] S (qRI r) := by
  unfold f_X12_octet at h0
  refine ev_method (by decide +kernel) rfl rfl (Nat.le_of_ble_eq_true rfl) ?_
  show EvW X m_X12_octet 2 0 0 0 [some (.ref a), some (.int p0)] [] S _
  refine ev_aload_n (pc := 0) (i := 0) rfl rfl rfl dX12_octet_0 ?_
  refine ev_iload_n (pc := 1) (i := 1) rfl rfl dX12_octet_1 ?_
  refine ev_if_lt (pc := 2) (tgt := 13) (by decide) dX12_octet_2 (fun c1 => ?_) (fun c1 => ?_)
  · replace h0 := qi_t h0 c1
    refine ev_iconst (pc := 13) (v := 1) (by decide) dX12_octet_13 ?_
    refine ev_goto (pc := 14) (tgt := 18) (by decide) dX12_octet_14 ?_
    exact ev_weak (qL_s (qL_s qL_nil)) (e_X12_octet_18 h0)
  · replace h0 := qi_f h0 c1
    refine ev_iload_n (pc := 5) (i := 1) rfl rfl dX12_octet_5 ?_
    refine ev_aload_n (pc := 6) (i := 0) rfl rfl rfl dX12_octet_6 ?_
    obtain ⟨g23, h24⟩ := qk_el h0; clear h0
    obtain ⟨x25, e26, h27⟩ := qv_el h24; clear h24
    refine xv_getIv (pc := 7) fn_921 (isb_el g23) e26 gw_1161 dX12_octet_7 ?_
    refine ev_ic_lt (pc := 10) (tgt := 17) (by decide) dX12_octet_10 (fun c28 => ?_) (fun c28 => ?_)
    · replace h27 := qi_t h27 c28
      refine ev_iconst (pc := 17) (v := 0) (by decide) dX12_octet_17 ?_
      exact ev_weak (qL_s (qL_s qL_nil)) (e_X12_octet_18 h27)
    · replace h27 := qi_f h27 c28
      refine ev_iconst (pc := 13) (v := 1) (by decide) dX12_octet_13 ?_
      refine ev_goto (pc := 14) (tgt := 18) (by decide) dX12_octet_14 ?_
      exact ev_weak (qL_s (qL_s qL_nil)) (e_X12_octet_18 h27)
theorem dX11_checkFields_0 : decode cX11_checkFields 0 = .ok (.iload_n 0, 1) := by decide +kernel
theorem dX11_checkFields_1 : decode cX11_checkFields 1 = .ok (.ifCond .lt 29, 3) := by decide +kernel
theorem dX11_checkFields_4 : decode cX11_checkFields 4 = .ok (.iload_n 0, 1) := by decide +kernel
theorem dX11_checkFields_5 : decode cX11_checkFields 5 = .ok (.i2l, 1) := by decide +kernel
theorem dX11_checkFields_6 : decode cX11_checkFields 6 = .ok (.getstatic 192, 3) := by decide +kernel
theorem dX11_checkFields_9 : decode cX11_checkFields 9 = .ok (.iconst 0, 1) := by decide +kernel
theorem dX11_checkFields_10 : decode cX11_checkFields 10 = .ok (.laload, 1) := by decide +kernel
theorem dX11_checkFields_11 : decode cX11_checkFields 11 = .ok (.lcmp, 1) := by decide +kernel
theorem dX11_checkFields_12 : decode cX11_checkFields 12 = .ok (.ifCond .gt 18, 3) := by decide +kernel
theorem dX11_checkFields_15 : decode cX11_checkFields 15 = .ok (.iload_n 1, 1) := by decide +kernel
theorem dX11_checkFields_16 : decode cX11_checkFields 16 = .ok (.ifCond .lt 14, 3) := by decide +kernel
theorem dX11_checkFields_19 : decode cX11_checkFields 19 = .ok (.iload_n 1, 1) := by decide +kernel
theorem dX11_checkFields_20 : decode cX11_checkFields 20 = .ok (.i2l, 1) := by decide +kernel
theorem dX11_checkFields_21 : decode cX11_checkFields 21 = .ok (.getstatic 192, 3) := by decide +kernel
theorem dX11_checkFields_24 : decode cX11_checkFields 24 = .ok (.iconst 1, 1) := by decide +kernel
theorem dX11_checkFields_25 : decode cX11_checkFields 25 = .ok (.laload, 1) := by decide +kernel
theorem dX11_checkFields_26 : decode cX11_checkFields 26 = .ok (.lcmp, 1) := by decide +kernel
theorem dX11_checkFields_27 : decode cX11_checkFields 27 = .ok (.ifCond .le 14, 3) := by decide +kernel
theorem dX11_checkFields_30 : decode cX11_checkFields 30 = .ok (.new 143, 3) := by decide +kernel
theorem dX11_checkFields_33 : decode cX11_checkFields 33 = .ok (.dup, 1) := by decide +kernel
theorem dX11_checkFields_34 : decode cX11_checkFields 34 = .ok (.ldc_w 256, 3) := by decide +kernel
theorem dX11_checkFields_37 : decode cX11_checkFields 37 = .ok (.invokespecial 147, 3) := by decide +kernel
theorem dX11_checkFields_40 : decode cX11_checkFields 40 = .ok (.athrow, 1) := by decide +kernel
theorem dX11_checkFields_41 : decode cX11_checkFields 41 = .ok (.iload_n 2, 1) := by decide +kernel
theorem dX11_checkFields_42 : decode cX11_checkFields 42 = .ok (.ifCond .lt 29, 3) := by decide +kernel
theorem dX11_checkFields_45 : decode cX11_checkFields 45 = .ok (.iload_n 2, 1) := by decide +kernel
theorem dX11_checkFields_46 : decode cX11_checkFields 46 = .ok (.i2l, 1) := by decide +kernel
theorem dX11_checkFields_47 : decode cX11_checkFields 47 = .ok (.getstatic 192, 3) := by decide +kernel
theorem dX11_checkFields_50 : decode cX11_checkFields 50 = .ok (.iconst 4, 1) := by decide +kernel
theorem dX11_checkFields_51 : decode cX11_checkFields 51 = .ok (.laload, 1) := by decide +kernel
theorem dX11_checkFields_52 : decode cX11_checkFields 52 = .ok (.lcmp, 1) := by decide +kernel
theorem dX11_checkFields_53 : decode cX11_checkFields 53 = .ok (.ifCond .gt 18, 3) := by decide +kernel
theorem dX11_checkFields_56 : decode cX11_checkFields 56 = .ok (.iload_n 3, 1) := by decide +kernel
theorem dX11_checkFields_57 : decode cX11_checkFields 57 = .ok (.ifCond .lt 14, 3) := by decide +kernel
theorem dX11_checkFields_60 : decode cX11_checkFields 60 = .ok (.iload_n 3, 1) := by decide +kernel
theorem dX11_checkFields_61 : decode cX11_checkFields 61 = .ok (.i2l, 1) := by decide +kernel
theorem dX11_checkFields_62 : decode cX11_checkFields 62 = .ok (.getstatic 192, 3) := by decide +kernel
theorem dX11_checkFields_65 : decode cX11_checkFields 65 = .ok (.iconst 5, 1) := by decide +kernel
theorem dX11_checkFields_66 : decode cX11_checkFields 66 = .ok (.laload, 1) := by decide +kernel
theorem dX11_checkFields_67 : decode cX11_checkFields 67 = .ok (.lcmp, 1) := by decide +kernel
theorem dX11_checkFields_68 : decode cX11_checkFields 68 = .ok (.ifCond .le 14, 3) := by decide +kernel
theorem dX11_checkFields_71 : decode cX11_checkFields 71 = .ok (.new 143, 3) := by decide +kernel
theorem dX11_checkFields_74 : decode cX11_checkFields 74 = .ok (.dup, 1) := by decide +kernel
theorem dX11_checkFields_75 : decode cX11_checkFields 75 = .ok (.ldc_w 258, 3) := by decide +kernel
theorem dX11_checkFields_78 : decode cX11_checkFields 78 = .ok (.invokespecial 147, 3) := by decide +kernel
theorem dX11_checkFields_81 : decode cX11_checkFields 81 = .ok (.athrow, 1) := by decide +kernel
theorem dX11_checkFields_82 : decode cX11_checkFields 82 = .ok (.return_, 1) := by decide +kernel
theorem e_X11_checkFields_30 {X : gk_X} {F : Nat} {k j : Nat}  {S : gk_S} {r : ((Unit ⊕ String) × gk_S)} (hb : qb r k j) (h0 : f_X11_checkFields_30 F  S = some r) : EvW X m_X11_checkFields 6 k j 30 [none, none, none, none] [] S (qXU r) := by
  unfold f_X11_checkFields_30 at h0
  cases h0
  exact ev_throwSW (pc := 30) (i := 24) (by decide) rfl rfl rfl rfl gx_okA (by decide +kernel) gw_777 gw_21 rfl (by decide) (by decide) (qb_inr hb).1 (qb_inr hb).2 rfl dX11_checkFields_30 dX11_checkFields_33 dX11_checkFields_34 dX11_checkFields_37 dX11_checkFields_40
theorem e_X11_checkFields_71 {X : gk_X} {F : Nat} {k j : Nat}  {S : gk_S} {r : ((Unit ⊕ String) × gk_S)} (hb : qb r k j) (h0 : f_X11_checkFields_71 F  S = some r) : EvW X m_X11_checkFields 6 k j 71 [none, none, none, none] [] S (qXU r) := by
  unfold f_X11_checkFields_71 at h0
  cases h0
  exact ev_throwSW (pc := 71) (i := 25) (by decide) rfl rfl rfl rfl gx_okA (by decide +kernel) gw_777 gw_21 rfl (by decide) (by decide) (qb_inr hb).1 (qb_inr hb).2 rfl dX11_checkFields_71 dX11_checkFields_74 dX11_checkFields_75 dX11_checkFields_78 dX11_checkFields_81
theorem e_X11_checkFields {X : gk_X} {F : Nat} {k j : Nat} {S : gk_S} {p0 : Int32} {p1 : Int32} {p2 : Int32} {p3 : Int32} {r : ((Unit ⊕ String) × gk_S)} (hb : qb r k j) (h0 : f_X11_checkFields F S p0 p1 p2 p3 = some r) : EvM X m_X11_checkFields 6 k j [.int p0, .int p1, .int p2, .int p3] S (qXU r) := by
  unfold f_X11_checkFields at h0
  refine ev_method (by decide +kernel) rfl rfl (Nat.le_of_ble_eq_true rfl) ?_
  show EvW X m_X11_checkFields 6 k j 0 [some (.int p0), some (.int p1), some (.int p2), some (.int p3)] [] S _
  refine ev_iload_n (pc := 0) (i := 0) rfl rfl dX11_checkFields_0 ?_
  refine ev_if_lt (pc := 1) (tgt := 30) (by decide) dX11_checkFields_1 (fun c1 => ?_) (fun c1 => ?_)
  · replace h0 := qi_t h0 c1
    exact ev_weak (qL_n (qL_n (qL_n (qL_n qL_nil)))) (e_X11_checkFields_30 hb h0)
  · replace h0 := qi_f h0 c1
    refine ev_iload_n (pc := 4) (i := 0) rfl rfl dX11_checkFields_4 ?_
    refine ev_i2l (pc := 5)  dX11_checkFields_5 ?_
    refine ev_getsT (pc := 6) gw_776 dX11_checkFields_6 ?_
    refine ev_iconst (pc := 9) (v := 0) (by decide) dX11_checkFields_9 ?_
    refine ev_caldT (pc := 10) (inb_el rfl) dX11_checkFields_10 ?_
    refine ev_lcmp (pc := 11)  dX11_checkFields_11 ?_
    refine ev_if_gt (pc := 12) (tgt := 30) (by decide) dX11_checkFields_12 (fun c3 => ?_) (fun c3 => ?_)
    · replace h0 := qi_t h0 (lc_gt c3)
      exact ev_weak (qL_n (qL_n (qL_n (qL_n qL_nil)))) (e_X11_checkFields_30 hb h0)
    · replace h0 := qi_f h0 (lc_gtN c3)
      refine ev_iload_n (pc := 15) (i := 1) rfl rfl dX11_checkFields_15 ?_
      refine ev_if_lt (pc := 16) (tgt := 30) (by decide) dX11_checkFields_16 (fun c5 => ?_) (fun c5 => ?_)
      · replace h0 := qi_t h0 c5
        exact ev_weak (qL_n (qL_n (qL_n (qL_n qL_nil)))) (e_X11_checkFields_30 hb h0)
      · replace h0 := qi_f h0 c5
        refine ev_iload_n (pc := 19) (i := 1) rfl rfl dX11_checkFields_19 ?_
        refine ev_i2l (pc := 20)  dX11_checkFields_20 ?_
        refine ev_getsT (pc := 21) gw_776 dX11_checkFields_21 ?_
        refine ev_iconst (pc := 24) (v := 1) (by decide) dX11_checkFields_24 ?_
        refine ev_caldT (pc := 25) (inb_el rfl) dX11_checkFields_25 ?_
        refine ev_lcmp (pc := 26)  dX11_checkFields_26 ?_
        refine ev_if_le (pc := 27) (tgt := 41) (by decide) dX11_checkFields_27 (fun c7 => ?_) (fun c7 => ?_)
        · replace h0 := qi_t h0 (lc_le c7)
          refine ev_iload_n (pc := 41) (i := 2) rfl rfl dX11_checkFields_41 ?_
          refine ev_if_lt (pc := 42) (tgt := 71) (by decide) dX11_checkFields_42 (fun c9 => ?_) (fun c9 => ?_)
          · replace h0 := qi_t h0 c9
            exact ev_weak (qL_n (qL_n (qL_n (qL_n qL_nil)))) (e_X11_checkFields_71 hb h0)
          · replace h0 := qi_f h0 c9
            refine ev_iload_n (pc := 45) (i := 2) rfl rfl dX11_checkFields_45 ?_
            refine ev_i2l (pc := 46)  dX11_checkFields_46 ?_
            refine ev_getsT (pc := 47) gw_776 dX11_checkFields_47 ?_
            refine ev_iconst (pc := 50) (v := 4) (by decide) dX11_checkFields_50 ?_
            refine ev_caldT (pc := 51) (inb_el rfl) dX11_checkFields_51 ?_
            refine ev_lcmp (pc := 52)  dX11_checkFields_52 ?_
            refine ev_if_gt (pc := 53) (tgt := 71) (by decide) dX11_checkFields_53 (fun c11 => ?_) (fun c11 => ?_)
            · replace h0 := qi_t h0 (lc_gt c11)
              exact ev_weak (qL_n (qL_n (qL_n (qL_n qL_nil)))) (e_X11_checkFields_71 hb h0)
            · replace h0 := qi_f h0 (lc_gtN c11)
              refine ev_iload_n (pc := 56) (i := 3) rfl rfl dX11_checkFields_56 ?_
              refine ev_if_lt (pc := 57) (tgt := 71) (by decide) dX11_checkFields_57 (fun c13 => ?_) (fun c13 => ?_)
              · replace h0 := qi_t h0 c13
                exact ev_weak (qL_n (qL_n (qL_n (qL_n qL_nil)))) (e_X11_checkFields_71 hb h0)
              · replace h0 := qi_f h0 c13
                refine ev_iload_n (pc := 60) (i := 3) rfl rfl dX11_checkFields_60 ?_
                refine ev_i2l (pc := 61)  dX11_checkFields_61 ?_
                refine ev_getsT (pc := 62) gw_776 dX11_checkFields_62 ?_
                refine ev_iconst (pc := 65) (v := 5) (by decide) dX11_checkFields_65 ?_
                refine ev_caldT (pc := 66) (inb_el rfl) dX11_checkFields_66 ?_
                refine ev_lcmp (pc := 67)  dX11_checkFields_67 ?_
                refine ev_if_le (pc := 68) (tgt := 82) (by decide) dX11_checkFields_68 (fun c15 => ?_) (fun c15 => ?_)
                · replace h0 := qi_t h0 (lc_le c15)
                  cases h0
                  exact ev_return (pc := 82) rfl rfl dX11_checkFields_82
                · replace h0 := qi_f h0 (lc_leN c15)
                  exact ev_weak (qL_n (qL_n (qL_n (qL_n qL_nil)))) (e_X11_checkFields_71 hb h0)
        · replace h0 := qi_f h0 (lc_leN c7)
          exact ev_weak (qL_n (qL_n (qL_n (qL_n qL_nil)))) (e_X11_checkFields_30 hb h0)
theorem dX3_fill_0 : decode cX3_fill 0 = .ok (.aload_n 0, 1) := by decide +kernel
theorem dX3_fill_1 : decode cX3_fill 1 = .ok (.getfield 9, 3) := by decide +kernel
theorem dX3_fill_4 : decode cX3_fill 4 = .ok (.iconst 0, 1) := by decide +kernel
theorem dX3_fill_5 : decode cX3_fill 5 = .ok (.iload_n 1, 1) := by decide +kernel
theorem dX3_fill_6 : decode cX3_fill 6 = .ok (.i2l, 1) := by decide +kernel
theorem dX3_fill_7 : decode cX3_fill 7 = .ok (.lastore, 1) := by decide +kernel
theorem dX3_fill_8 : decode cX3_fill 8 = .ok (.aload_n 0, 1) := by decide +kernel
theorem dX3_fill_9 : decode cX3_fill 9 = .ok (.getfield 9, 3) := by decide +kernel
theorem dX3_fill_12 : decode cX3_fill 12 = .ok (.iconst 1, 1) := by decide +kernel
theorem dX3_fill_13 : decode cX3_fill 13 = .ok (.iload_n 2, 1) := by decide +kernel
theorem dX3_fill_14 : decode cX3_fill 14 = .ok (.i2l, 1) := by decide +kernel
theorem dX3_fill_15 : decode cX3_fill 15 = .ok (.lastore, 1) := by decide +kernel
theorem dX3_fill_16 : decode cX3_fill 16 = .ok (.aload_n 0, 1) := by decide +kernel
theorem dX3_fill_17 : decode cX3_fill 17 = .ok (.getfield 9, 3) := by decide +kernel
theorem dX3_fill_20 : decode cX3_fill 20 = .ok (.iconst 2, 1) := by decide +kernel
theorem dX3_fill_21 : decode cX3_fill 21 = .ok (.iload_n 3, 1) := by decide +kernel
theorem dX3_fill_22 : decode cX3_fill 22 = .ok (.i2l, 1) := by decide +kernel
theorem dX3_fill_23 : decode cX3_fill 23 = .ok (.getstatic 19, 3) := by decide +kernel
theorem dX3_fill_26 : decode cX3_fill 26 = .ok (.iconst 2, 1) := by decide +kernel
theorem dX3_fill_27 : decode cX3_fill 27 = .ok (.laload, 1) := by decide +kernel
theorem dX3_fill_28 : decode cX3_fill 28 = .ok (.land, 1) := by decide +kernel
theorem dX3_fill_29 : decode cX3_fill 29 = .ok (.lastore, 1) := by decide +kernel
theorem dX3_fill_30 : decode cX3_fill 30 = .ok (.aload_n 0, 1) := by decide +kernel
theorem dX3_fill_31 : decode cX3_fill 31 = .ok (.getfield 9, 3) := by decide +kernel
theorem dX3_fill_34 : decode cX3_fill 34 = .ok (.iconst 3, 1) := by decide +kernel
theorem dX3_fill_35 : decode cX3_fill 35 = .ok (.iload 4, 2) := by decide +kernel
theorem dX3_fill_37 : decode cX3_fill 37 = .ok (.i2l, 1) := by decide +kernel
theorem dX3_fill_38 : decode cX3_fill 38 = .ok (.getstatic 19, 3) := by decide +kernel
theorem dX3_fill_41 : decode cX3_fill 41 = .ok (.iconst 3, 1) := by decide +kernel
theorem dX3_fill_42 : decode cX3_fill 42 = .ok (.laload, 1) := by decide +kernel
theorem dX3_fill_43 : decode cX3_fill 43 = .ok (.land, 1) := by decide +kernel
theorem dX3_fill_44 : decode cX3_fill 44 = .ok (.lastore, 1) := by decide +kernel
theorem dX3_fill_45 : decode cX3_fill 45 = .ok (.aload_n 0, 1) := by decide +kernel
theorem dX3_fill_46 : decode cX3_fill 46 = .ok (.getfield 9, 3) := by decide +kernel
theorem dX3_fill_49 : decode cX3_fill 49 = .ok (.iconst 4, 1) := by decide +kernel
theorem dX3_fill_50 : decode cX3_fill 50 = .ok (.iload 5, 2) := by decide +kernel
theorem dX3_fill_52 : decode cX3_fill 52 = .ok (.i2l, 1) := by decide +kernel
theorem dX3_fill_53 : decode cX3_fill 53 = .ok (.lastore, 1) := by decide +kernel
theorem dX3_fill_54 : decode cX3_fill 54 = .ok (.aload_n 0, 1) := by decide +kernel
theorem dX3_fill_55 : decode cX3_fill 55 = .ok (.getfield 9, 3) := by decide +kernel
theorem dX3_fill_58 : decode cX3_fill 58 = .ok (.iconst 5, 1) := by decide +kernel
theorem dX3_fill_59 : decode cX3_fill 59 = .ok (.iload 6, 2) := by decide +kernel
theorem dX3_fill_61 : decode cX3_fill 61 = .ok (.i2l, 1) := by decide +kernel
theorem dX3_fill_62 : decode cX3_fill 62 = .ok (.lastore, 1) := by decide +kernel
theorem dX3_fill_63 : decode cX3_fill 63 = .ok (.return_, 1) := by decide +kernel
theorem e_X3_fill {X : gk_X} {F : Nat} {S : gk_S} {a : Nat} {p0 : Int32} {p1 : Int32} {p2 : Int32} {p3 : Int32} {p4 : Int32} {p5 : Int32} {r : (Unit × gk_S)} (h0 : f_X3_fill F S a p0 p1 p2 p3 p4 p5 = some r) : EvM X m_X3_fill 1 0 0 [.ref a, .int p0, .int p1, .int p2, .int p3, .int p4, .int p5] S (qRU r) := by
  unfold f_X3_fill at h0
  refine ev_method (by decide +kernel) rfl rfl (Nat.le_of_ble_eq_true rfl) ?_
  show EvW X m_X3_fill 1 0 0 0 [some (.ref a), some (.int p0), some (.int p1), some (.int p2), some (.int p3), some (.int p4), some (.int p5)] [] S _
  refine ev_aload_n (pc := 0) (i := 0) rfl rfl rfl dX3_fill_0 ?_
  obtain ⟨g1, h2⟩ := qk_el h0; clear h0
  obtain ⟨b3, e4, h5⟩ := qP_el h2; clear h2
  refine xv_getP (pc := 1) fn_200 (isb_el g1) e4 gw_267 dX3_fill_1 ?_
  refine ev_iconst (pc := 4) (v := 0) (by decide) dX3_fill_4 ?_
  refine ev_iload_n (pc := 5) (i := 1) rfl rfl dX3_fill_5 ?_
  refine ev_i2l (pc := 6)  dX3_fill_6 ?_
  obtain ⟨g6, h7⟩ := qk_el h5; clear h5
  obtain ⟨g8, h9⟩ := qk_el h7; clear h7
  obtain ⟨S10, e11, h12⟩ := qv_el h9; clear h9
  refine yv_last (pc := 7) (isb_el g6) (inb_el g8) e11 dX3_fill_7 ?_
  refine ev_aload_n (pc := 8) (i := 0) rfl rfl rfl dX3_fill_8 ?_
  obtain ⟨b13, e14, h15⟩ := qP_el h12; clear h12
  refine xv_getP (pc := 9) fn_200 (is_wJ (isb_el g1) e11) e14 gw_267 dX3_fill_9 ?_
  refine ev_iconst (pc := 12) (v := 1) (by decide) dX3_fill_12 ?_
  refine ev_iload_n (pc := 13) (i := 2) rfl rfl dX3_fill_13 ?_
  refine ev_i2l (pc := 14)  dX3_fill_14 ?_
  obtain ⟨g16, h17⟩ := qk_el h15; clear h15
  obtain ⟨g18, h19⟩ := qk_el h17; clear h17
  obtain ⟨S20, e21, h22⟩ := qv_el h19; clear h19
  refine yv_last (pc := 15) (isb_el g16) (inb_el g18) e21 dX3_fill_15 ?_
  refine ev_aload_n (pc := 16) (i := 0) rfl rfl rfl dX3_fill_16 ?_
  obtain ⟨b23, e24, h25⟩ := qP_el h22; clear h22
  refine xv_getP (pc := 17) fn_200 (is_wJ (is_wJ (isb_el g1) e11) e21) e24 gw_267 dX3_fill_17 ?_
  refine ev_iconst (pc := 20) (v := 2) (by decide) dX3_fill_20 ?_
  refine ev_iload_n (pc := 21) (i := 3) rfl rfl dX3_fill_21 ?_
  refine ev_i2l (pc := 22)  dX3_fill_22 ?_
  refine ev_getsTN (pc := 23) (by decide +kernel) dX3_fill_23 ?_
  refine ev_iconst (pc := 26) (v := 2) (by decide) dX3_fill_26 ?_
  refine ev_caldT (pc := 27) (inb_el rfl) dX3_fill_27 ?_
  refine ev_land (pc := 28)  dX3_fill_28 ?_
  obtain ⟨g26, h27⟩ := qk_el h25; clear h25
  obtain ⟨g28, h29⟩ := qk_el h27; clear h27
  obtain ⟨S30, e31, h32⟩ := qv_el h29; clear h29
  refine yv_last (pc := 29) (isb_el g26) (inb_el g28) e31 dX3_fill_29 ?_
  refine ev_aload_n (pc := 30) (i := 0) rfl rfl rfl dX3_fill_30 ?_
  obtain ⟨b33, e34, h35⟩ := qP_el h32; clear h32
  refine xv_getP (pc := 31) fn_200 (is_wJ (is_wJ (is_wJ (isb_el g1) e11) e21) e31) e34 gw_267 dX3_fill_31 ?_
  refine ev_iconst (pc := 34) (v := 3) (by decide) dX3_fill_34 ?_
  refine ev_iload (pc := 35) (i := 4) rfl dX3_fill_35 ?_
  refine ev_i2l (pc := 37)  dX3_fill_37 ?_
  refine ev_getsTN (pc := 38) (by decide +kernel) dX3_fill_38 ?_
  refine ev_iconst (pc := 41) (v := 3) (by decide) dX3_fill_41 ?_
  refine ev_caldT (pc := 42) (inb_el rfl) dX3_fill_42 ?_
  refine ev_land (pc := 43)  dX3_fill_43 ?_
  obtain ⟨g36, h37⟩ := qk_el h35; clear h35
  obtain ⟨g38, h39⟩ := qk_el h37; clear h37
  obtain ⟨S40, e41, h42⟩ := qv_el h39; clear h39
  refine yv_last (pc := 44) (isb_el g36) (inb_el g38) e41 dX3_fill_44 ?_
  refine ev_aload_n (pc := 45) (i := 0) rfl rfl rfl dX3_fill_45 ?_
  obtain ⟨b43, e44, h45⟩ := qP_el h42; clear h42
  refine xv_getP (pc := 46) fn_200 (is_wJ (is_wJ (is_wJ (is_wJ (isb_el g1) e11) e21) e31) e41) e44 gw_267 dX3_fill_46 ?_
  refine ev_iconst (pc := 49) (v := 4) (by decide) dX3_fill_49 ?_
  refine ev_iload (pc := 50) (i := 5) rfl dX3_fill_50 ?_
  refine ev_i2l (pc := 52)  dX3_fill_52 ?_
  obtain ⟨g46, h47⟩ := qk_el h45; clear h45
  obtain ⟨g48, h49⟩ := qk_el h47; clear h47
  obtain ⟨S50, e51, h52⟩ := qv_el h49; clear h49
  refine yv_last (pc := 53) (isb_el g46) (inb_el g48) e51 dX3_fill_53 ?_
  refine ev_aload_n (pc := 54) (i := 0) rfl rfl rfl dX3_fill_54 ?_
  obtain ⟨b53, e54, h55⟩ := qP_el h52; clear h52
  refine xv_getP (pc := 55) fn_200 (is_wJ (is_wJ (is_wJ (is_wJ (is_wJ (isb_el g1) e11) e21) e31) e41) e51) e54 gw_267 dX3_fill_55 ?_
  refine ev_iconst (pc := 58) (v := 5) (by decide) dX3_fill_58 ?_
  refine ev_iload (pc := 59) (i := 6) rfl dX3_fill_59 ?_
  refine ev_i2l (pc := 61)  dX3_fill_61 ?_
  obtain ⟨g56, h57⟩ := qk_el h55; clear h55
  obtain ⟨g58, h59⟩ := qk_el h57; clear h57
  obtain ⟨S60, e61, h62⟩ := qv_el h59; clear h59
  refine yv_last (pc := 62) (isb_el g56) (inb_el g58) e61 dX3_fill_62 ?_
  exact ev_return (pc := 63) rfl (qRU_eq h62) dX3_fill_63
theorem dX11_match_0 : decode cX11_match 0 = .ok (.iload_n 1, 1) := by decide +kernel
theorem dX11_match_1 : decode cX11_match 1 = .ok (.invokestatic 89, 3) := by decide +kernel
theorem dX11_match_4 : decode cX11_match 4 = .ok (.iload_n 2, 1) := by decide +kernel
theorem dX11_match_5 : decode cX11_match 5 = .ok (.iload_n 3, 1) := by decide +kernel
theorem dX11_match_6 : decode cX11_match 6 = .ok (.iload 6, 2) := by decide +kernel
theorem dX11_match_8 : decode cX11_match 8 = .ok (.iload 7, 2) := by decide +kernel
theorem dX11_match_10 : decode cX11_match 10 = .ok (.invokestatic 139, 3) := by decide +kernel
theorem dX11_match_13 : decode cX11_match 13 = .ok (.iload 8, 2) := by decide +kernel
theorem dX11_match_15 : decode cX11_match 15 = .ok (.ifCond .lt 9, 3) := by decide +kernel
theorem dX11_match_18 : decode cX11_match 18 = .ok (.iload 8, 2) := by decide +kernel
theorem dX11_match_20 : decode cX11_match 20 = .ok (.iconst 4, 1) := by decide +kernel
theorem dX11_match_21 : decode cX11_match 21 = .ok (.if_icmp .lt 13, 3) := by decide +kernel
theorem dX11_match_24 : decode cX11_match 24 = .ok (.new 143, 3) := by decide +kernel
theorem dX11_match_27 : decode cX11_match 27 = .ok (.dup, 1) := by decide +kernel
theorem dX11_match_28 : decode cX11_match 28 = .ok (.ldc 145, 2) := by decide +kernel
theorem dX11_match_30 : decode cX11_match 30 = .ok (.invokespecial 147, 3) := by decide +kernel
theorem dX11_match_33 : decode cX11_match 33 = .ok (.athrow, 1) := by decide +kernel
theorem dX11_match_34 : decode cX11_match 34 = .ok (.aload_n 0, 1) := by decide +kernel
theorem dX11_match_35 : decode cX11_match 35 = .ok (.getfield 65, 3) := by decide +kernel
theorem dX11_match_38 : decode cX11_match 38 = .ok (.iload_n 2, 1) := by decide +kernel
theorem dX11_match_39 : decode cX11_match 39 = .ok (.iload_n 3, 1) := by decide +kernel
theorem dX11_match_40 : decode cX11_match 40 = .ok (.iload 4, 2) := by decide +kernel
theorem dX11_match_42 : decode cX11_match 42 = .ok (.iload 5, 2) := by decide +kernel
theorem dX11_match_44 : decode cX11_match 44 = .ok (.iload 6, 2) := by decide +kernel
theorem dX11_match_46 : decode cX11_match 46 = .ok (.iload 7, 2) := by decide +kernel
theorem dX11_match_48 : decode cX11_match 48 = .ok (.invokevirtual 148, 3) := by decide +kernel
theorem dX11_match_51 : decode cX11_match 51 = .ok (.aload_n 0, 1) := by decide +kernel
theorem dX11_match_52 : decode cX11_match 52 = .ok (.getfield 23, 3) := by decide +kernel
theorem dX11_match_55 : decode cX11_match 55 = .ok (.iload_n 1, 1) := by decide +kernel
theorem dX11_match_56 : decode cX11_match 56 = .ok (.aaload, 1) := by decide +kernel
theorem dX11_match_57 : decode cX11_match 57 = .ok (.aload_n 0, 1) := by decide +kernel
theorem dX11_match_58 : decode cX11_match 58 = .ok (.getfield 65, 3) := by decide +kernel
theorem dX11_match_61 : decode cX11_match 61 = .ok (.iload 8, 2) := by decide +kernel
theorem dX11_match_63 : decode cX11_match 63 = .ok (.invokevirtual 152, 3) := by decide +kernel
theorem dX11_match_66 : decode cX11_match 66 = .ok (.ireturn, 1) := by decide +kernel
theorem e_X11_match_24 {X : gk_X} {F : Nat} {k j : Nat}  {S : gk_S} {r : ((Int32 ⊕ String) × gk_S)} (hb : qb r k j) (h0 : f_X11_match_24 F  S = some r) : EvW X m_X11_match 7 k j 24 [none, none, none, none, none, none, none, none, none] [] S (qXI r) := by
  unfold f_X11_match_24 at h0
  cases h0
  exact ev_throwS (pc := 24) (i := 26) (by decide) rfl rfl rfl rfl gx_okA (by decide +kernel) gw_777 gw_21 rfl (by decide) (by decide) (qb_inr hb).1 (qb_inr hb).2 rfl dX11_match_24 dX11_match_27 dX11_match_28 dX11_match_30 dX11_match_33
theorem e_X11_match {X : gk_X} {F : Nat} {k j : Nat} {S : gk_S} {a : Nat} {p0 : Int32} {p1 : Int32} {p2 : Int32} {p3 : Int32} {p4 : Int32} {p5 : Int32} {p6 : Int32} {p7 : Int32} {r : ((Int32 ⊕ String) × gk_S)} (hb : qb r k j) (h0 : f_X11_match F S a p0 p1 p2 p3 p4 p5 p6 p7 = some r) : EvM X m_X11_match 7 k j [.ref a, .int p0, .int p1, .int p2, .int p3, .int p4, .int p5, .int p6, .int p7] S (qXI r) := by
  unfold f_X11_match at h0
  refine ev_method (by decide +kernel) rfl rfl (Nat.le_of_ble_eq_true rfl) ?_
  show EvW X m_X11_match 7 k j 0 [some (.ref a), some (.int p0), some (.int p1), some (.int p2), some (.int p3), some (.int p4), some (.int p5), some (.int p6), some (.int p7)] [] S _
  refine ev_iload_n (pc := 0) (i := 1) rfl rfl dX11_match_0 ?_
  rcases qx_el h0 with ⟨E5, T6, e3, z1⟩ | ⟨x1, S2, e3, h4⟩
  · subst z1
    exact xv_thrS (pc := 1) (st := []) (as := [.int p0]) ok_X11_checkList (e_X11_checkList (fun _ _ => qb_inr hb) e3) rfl rfl (by decide) (Nat.le_refl _) (Nat.le_refl _) rfl (Nat.le_of_ble_eq_true rfl) rfl gw_386 dX11_match_1
  clear h0
  refine xv_callS (pc := 1) (st := []) (as := [.int p0]) (v := none) (S' := S2) ok_X11_checkList (e_X11_checkList (k := 0) (j := 0) qb_inl e3) (by decide) rfl (Nat.le_of_ble_eq_true rfl) rfl gw_386 dX11_match_1 ?_
  refine ev_iload_n (pc := 4) (i := 2) rfl rfl dX11_match_4 ?_
  refine ev_iload_n (pc := 5) (i := 3) rfl rfl dX11_match_5 ?_
  refine ev_iload (pc := 6) (i := 6) rfl dX11_match_6 ?_
  refine ev_iload (pc := 8) (i := 7) rfl dX11_match_8 ?_
  rcases qx_el h4 with ⟨E11, T12, e9, z1⟩ | ⟨x7, S8, e9, h10⟩
  · subst z1
    exact xv_thrS (pc := 10) (st := []) (as := [.int p1, .int p2, .int p5, .int p6]) ok_X11_checkFields (e_X11_checkFields (fun _ _ => qb_inr hb) e9) rfl rfl (by decide) (Nat.le_refl _) (Nat.le_refl _) rfl (Nat.le_of_ble_eq_true rfl) rfl gw_773 dX11_match_10
  clear h4
  refine xv_callS (pc := 10) (st := []) (as := [.int p1, .int p2, .int p5, .int p6]) (v := none) (S' := S8) ok_X11_checkFields (e_X11_checkFields (k := 0) (j := 0) qb_inl e9) (by decide) rfl (Nat.le_of_ble_eq_true rfl) rfl gw_773 dX11_match_10 ?_
  refine ev_iload (pc := 13) (i := 8) rfl dX11_match_13 ?_
  refine ev_if_lt (pc := 15) (tgt := 24) (by decide) dX11_match_15 (fun c13 => ?_) (fun c13 => ?_)
  · replace h10 := qi_t h10 c13
    exact ev_weak (qL_n (qL_n (qL_n (qL_n (qL_n (qL_n (qL_n (qL_n (qL_n qL_nil))))))))) (e_X11_match_24 hb h10)
  · replace h10 := qi_f h10 c13
    refine ev_iload (pc := 18) (i := 8) rfl dX11_match_18 ?_
    refine ev_iconst (pc := 20) (v := 4) (by decide) dX11_match_20 ?_
    refine ev_ic_lt (pc := 21) (tgt := 34) (by decide) dX11_match_21 (fun c15 => ?_) (fun c15 => ?_)
    · replace h10 := qi_t h10 c15
      refine ev_aload_n (pc := 34) (i := 0) rfl rfl rfl dX11_match_34 ?_
      obtain ⟨g17, h18⟩ := qk_el h10; clear h10
      obtain ⟨b19, e20, h21⟩ := qP_el h18; clear h18
      refine xv_getP (pc := 35) fn_808 (isb_el g17) e20 gw_290 dX11_match_35 ?_
      refine ev_iload_n (pc := 38) (i := 2) rfl rfl dX11_match_38 ?_
      refine ev_iload_n (pc := 39) (i := 3) rfl rfl dX11_match_39 ?_
      refine ev_iload (pc := 40) (i := 4) rfl dX11_match_40 ?_
      refine ev_iload (pc := 42) (i := 5) rfl dX11_match_42 ?_
      refine ev_iload (pc := 44) (i := 6) rfl dX11_match_44 ?_
      refine ev_iload (pc := 46) (i := 7) rfl dX11_match_46 ?_
      obtain ⟨g22, h23⟩ := qk_el h21; clear h21
      obtain ⟨x24, S25, e26, h27⟩ := qc_el h23; clear h23
      refine xv_callV (pc := 48) (st := []) (as := [.int p1, .int p2, .int p3, .int p4, .int p5, .int p6]) (v := none) (S' := S25) ok_X3_fill (e_X3_fill e26) (isb_el g22) (by decide) rfl (Nat.le_of_ble_eq_true rfl) rfl gw_795 dX11_match_48 ?_
      refine ev_aload_n (pc := 51) (i := 0) rfl rfl rfl dX11_match_51 ?_
      obtain ⟨g28, h29⟩ := qk_el h27; clear h27
      obtain ⟨b30, e31, h32⟩ := qP_el h29; clear h29
      refine xv_getP (pc := 52) fn_802 (isb_el g28) e31 gw_284 dX11_match_52 ?_
      refine ev_iload_n (pc := 55) (i := 1) rfl rfl dX11_match_55 ?_
      obtain ⟨g33, h34⟩ := qk_el h32; clear h32
      obtain ⟨g35, h36⟩ := qk_el h34; clear h34
      obtain ⟨b37, e38, h39⟩ := qP_el h36; clear h36
      refine yv_aald (pc := 56) (isb_el g33) (by decide) (inb_el g35) e38 dX11_match_56 ?_
      refine ev_aload_n (pc := 57) (i := 0) rfl rfl rfl dX11_match_57 ?_
      obtain ⟨b40, e41, h42⟩ := qP_el h39; clear h39
      refine xv_getP (pc := 58) fn_808 (isb_el g28) e41 gw_290 dX11_match_58 ?_
      refine ev_iload (pc := 61) (i := 8) rfl dX11_match_61 ?_
      obtain ⟨g43, h44⟩ := qk_el h42; clear h42
      obtain ⟨x45, S46, e47, h48⟩ := qc_el h44; clear h44
      refine xv_callV (pc := 63) (st := []) (as := [.ref b40, .int p7]) (v := (some (.int x45))) (S' := S46) ok_X6_firstFor (e_X6_firstFor e47) (isb_el g43) (by decide) rfl (Nat.le_of_ble_eq_true rfl) rfl gw_800 dX11_match_63 ?_
      cases h48
      exact ev_ireturn (pc := 66) rfl (nar_int _) rfl dX11_match_66
    · replace h10 := qi_f h10 c15
      exact ev_weak (qL_n (qL_n (qL_n (qL_n (qL_n (qL_n (qL_n (qL_n (qL_n qL_nil))))))))) (e_X11_match_24 hb h10)
theorem dL_match_0 : decode cL_match 0 = .ok (.aload 9, 2) := by decide +kernel
theorem dL_match_2 : decode cL_match 2 = .ok (.iconst 0, 1) := by decide +kernel
theorem dL_match_3 : decode cL_match 3 = .ok (.aload_n 0, 1) := by decide +kernel
theorem dL_match_4 : decode cL_match 4 = .ok (.iload_n 1, 1) := by decide +kernel
theorem dL_match_5 : decode cL_match 5 = .ok (.iload_n 2, 1) := by decide +kernel
theorem dL_match_6 : decode cL_match 6 = .ok (.iload_n 3, 1) := by decide +kernel
theorem dL_match_7 : decode cL_match 7 = .ok (.iload 4, 2) := by decide +kernel
theorem dL_match_9 : decode cL_match 9 = .ok (.iload 5, 2) := by decide +kernel
theorem dL_match_11 : decode cL_match 11 = .ok (.iload 6, 2) := by decide +kernel
theorem dL_match_13 : decode cL_match 13 = .ok (.iload 7, 2) := by decide +kernel
theorem dL_match_15 : decode cL_match 15 = .ok (.iload 8, 2) := by decide +kernel
theorem dL_match_17 : decode cL_match 17 = .ok (.invokevirtual 30, 3) := by decide +kernel
theorem dL_match_20 : decode cL_match 20 = .ok (.i2l, 1) := by decide +kernel
theorem dL_match_21 : decode cL_match 21 = .ok (.lastore, 1) := by decide +kernel
theorem dL_match_22 : decode cL_match 22 = .ok (.goto 11, 3) := by decide +kernel
theorem dL_match_25 : decode cL_match 25 = .ok (.astore 10, 2) := by decide +kernel
theorem dL_match_27 : decode cL_match 27 = .ok (.iconst 1, 1) := by decide +kernel
theorem dL_match_28 : decode cL_match 28 = .ok (.ireturn, 1) := by decide +kernel
theorem dL_match_29 : decode cL_match 29 = .ok (.astore 10, 2) := by decide +kernel
theorem dL_match_31 : decode cL_match 31 = .ok (.iconst 2, 1) := by decide +kernel
theorem dL_match_32 : decode cL_match 32 = .ok (.ireturn, 1) := by decide +kernel
theorem dL_match_33 : decode cL_match 33 = .ok (.iconst 0, 1) := by decide +kernel
theorem dL_match_34 : decode cL_match 34 = .ok (.ireturn, 1) := by decide +kernel
theorem e_L_match {X : gk_X} {F : Nat} {k j : Nat} {S : gk_S} {p0 : Nat} {p1 : Int32} {p2 : Int32} {p3 : Int32} {p4 : Int32} {p5 : Int32} {p6 : Int32} {p7 : Int32} {p8 : Int32} {p9 : Nat} {r : (Int32 × gk_S)} (hb : r.1 = 0 ∨ (1 ≤ k ∧ 6 ≤ j)) (h0 : f_L_match F S p0 p1 p2 p3 p4 p5 p6 p7 p8 p9 = some r) : EvM X m_L_match 8 k j [.ref p0, .int p1, .int p2, .int p3, .int p4, .int p5, .int p6, .int p7, .int p8, .ref p9] S (qRI r) := by
  unfold f_L_match at h0
  refine ev_methodH (by decide +kernel) (by decide) rfl (Nat.le_of_ble_eq_true rfl) ?_
  show EvW X m_L_match 8 k j 0 [some (.ref p0), some (.int p1), some (.int p2), some (.int p3), some (.int p4), some (.int p5), some (.int p6), some (.int p7), some (.int p8), some (.ref p9), none] [] S _
  refine ev_aload (pc := 0) (i := 9) rfl rfl dL_match_0 ?_
  refine ev_iconst (pc := 2) (v := 0) (by decide) dL_match_2 ?_
  refine ev_aload_n (pc := 3) (i := 0) rfl rfl rfl dL_match_3 ?_
  refine ev_iload_n (pc := 4) (i := 1) rfl rfl dL_match_4 ?_
  refine ev_iload_n (pc := 5) (i := 2) rfl rfl dL_match_5 ?_
  refine ev_iload_n (pc := 6) (i := 3) rfl rfl dL_match_6 ?_
  refine ev_iload (pc := 7) (i := 4) rfl dL_match_7 ?_
  refine ev_iload (pc := 9) (i := 5) rfl dL_match_9 ?_
  refine ev_iload (pc := 11) (i := 6) rfl dL_match_11 ?_
  refine ev_iload (pc := 13) (i := 7) rfl dL_match_13 ?_
  refine ev_iload (pc := 15) (i := 8) rfl dL_match_15 ?_
  obtain ⟨g1, h2⟩ := qk_el h0; clear h0
  rcases qh_el h2 with ⟨E7, T8, e5, h6⟩ | ⟨x3, S4, e5, h6⟩
  · by_cases c9 : E7 = gx_I
    · replace h6 := qi_t h6 c9; subst c9
      have hb9 : 1 ≤ k ∧ 6 ≤ j := by cases h6; exact hb.resolve_left (show ¬ (1 : Int32) = 0 by decide)
      refine yv_catV (pc := 17) (st := [.int 0, .ref p9]) (as := [.int p1, .int p2, .int p3, .int p4, .int p5, .int p6, .int p7, .int p8]) (i9 := 10) (len9 := 2) (pre := []) (suf := [(0, 22, 29, 34)]) (x := (0, 22, 25, 13)) (name := "java/lang/IndexOutOfBoundsException") ok_X11_match (e_X11_match (k := k) (j := j) (fun _ _ => hb9) e5) (isb_el g1) rfl (by intro z hz; cases hz) (by decide) (by decide) (by decide) gw_381 (by decide +kernel) (.inl ⟨rfl, rfl⟩) (by decide) rfl (gl9 rfl) (by decide) rfl (Nat.le_of_ble_eq_true rfl) rfl gw_769 dL_match_17 dL_match_25 ?_
      refine ev_iconst (pc := 27) (v := 1) (by decide) dL_match_27 ?_
      exact ev_ireturn (pc := 28) rfl rfl (by cases h6; rfl) dL_match_28
    replace h6 := qi_f h6 c9
    by_cases c10 : E7 = gx_A
    · replace h6 := qi_t h6 c10; subst c10
      have hb9 : 1 ≤ k ∧ 6 ≤ j := by cases h6; exact hb.resolve_left (show ¬ (2 : Int32) = 0 by decide)
      refine yv_catV (pc := 17) (st := [.int 0, .ref p9]) (as := [.int p1, .int p2, .int p3, .int p4, .int p5, .int p6, .int p7, .int p8]) (i9 := 10) (len9 := 2) (pre := [(0, 22, 25, 13)]) (suf := []) (x := (0, 22, 29, 34)) (name := "java/lang/IllegalArgumentException") ok_X11_match (e_X11_match (k := k) (j := j) (fun _ _ => hb9) e5) (isb_el g1) rfl (by intro z hz; rcases List.mem_singleton.mp hz with rfl; exact ⟨by decide, "java/lang/IndexOutOfBoundsException", gw_381, by decide +kernel⟩) (by decide) (by decide) (by decide) gw_768 (by decide +kernel) (.inl ⟨rfl, rfl⟩) (by decide) rfl (gl9 rfl) (by decide) rfl (Nat.le_of_ble_eq_true rfl) rfl gw_769 dL_match_17 dL_match_29 ?_
      refine ev_iconst (pc := 31) (v := 2) (by decide) dL_match_31 ?_
      exact ev_ireturn (pc := 32) rfl rfl (by cases h6; rfl) dL_match_32
    replace h6 := qi_f h6 c10
    cases h6
  clear h2
  refine xv_callV (pc := 17) (st := [.int 0, .ref p9]) (as := [.int p1, .int p2, .int p3, .int p4, .int p5, .int p6, .int p7, .int p8]) (v := (some (.int x3))) (S' := S4) ok_X11_match (e_X11_match (k := 0) (j := 0) qb_inl e5) (isb_el g1) (by decide) rfl (Nat.le_of_ble_eq_true rfl) rfl gw_769 dL_match_17 ?_
  refine ev_i2l (pc := 20)  dL_match_20 ?_
  obtain ⟨g11, h12⟩ := qk_el h6; clear h6
  obtain ⟨g13, h14⟩ := qk_el h12; clear h12
  obtain ⟨S15, e16, h17⟩ := qv_el h14; clear h14
  refine yv_last (pc := 21) (isb_el g11) (inb_el g13) e16 dL_match_21 ?_
  refine ev_goto (pc := 22) (tgt := 33) (by decide) dL_match_22 ?_
  refine ev_iconst (pc := 33) (v := 0) (by decide) dL_match_33 ?_
  exact ev_ireturn (pc := 34) rfl (nar_int _) (qRI_eq h17) dL_match_34
theorem dX12_isNone_0 : decode cX12_isNone 0 = .ok (.iload_n 0, 1) := by decide +kernel
theorem dX12_isNone_1 : decode cX12_isNone 1 = .ok (.ifCond .lt 8, 3) := by decide +kernel
theorem dX12_isNone_4 : decode cX12_isNone 4 = .ok (.iload_n 0, 1) := by decide +kernel
theorem dX12_isNone_5 : decode cX12_isNone 5 = .ok (.iload_n 1, 1) := by decide +kernel
theorem dX12_isNone_6 : decode cX12_isNone 6 = .ok (.if_icmp .le 7, 3) := by decide +kernel
theorem dX12_isNone_9 : decode cX12_isNone 9 = .ok (.iconst 1, 1) := by decide +kernel
theorem dX12_isNone_10 : decode cX12_isNone 10 = .ok (.goto 4, 3) := by decide +kernel
theorem dX12_isNone_13 : decode cX12_isNone 13 = .ok (.iconst 0, 1) := by decide +kernel
theorem dX12_isNone_14 : decode cX12_isNone 14 = .ok (.ireturn, 1) := by decide +kernel
theorem e_X12_isNone {X : gk_X} {F : Nat} {S : gk_S} {p0 : Int32} {p1 : Int32} {r : (Int32 × gk_S)} (h0 : f_X12_isNone F S p0 p1 = some r) : EvM X m_X12_isNone 1 0 0 [.int p0, .int p1] S (qRI r) := by
  unfold f_X12_isNone at h0
  refine ev_method (by decide +kernel) rfl rfl (Nat.le_of_ble_eq_true rfl) ?_
  show EvW X m_X12_isNone 1 0 0 0 [some (.int p0), some (.int p1)] [] S _
  refine ev_iload_n (pc := 0) (i := 0) rfl rfl dX12_isNone_0 ?_
  refine ev_if_lt (pc := 1) (tgt := 9) (by decide) dX12_isNone_1 (fun c1 => ?_) (fun c1 => ?_)
  · replace h0 := qi_t h0 c1
    refine ev_iconst (pc := 9) (v := 1) (by decide) dX12_isNone_9 ?_
    refine ev_goto (pc := 10) (tgt := 14) (by decide) dX12_isNone_10 ?_
    exact ev_ireturn (pc := 14) rfl rfl (qRI_eq h0) dX12_isNone_14
  · replace h0 := qi_f h0 c1
    refine ev_iload_n (pc := 4) (i := 0) rfl rfl dX12_isNone_4 ?_
    refine ev_iload_n (pc := 5) (i := 1) rfl rfl dX12_isNone_5 ?_
    refine ev_ic_le (pc := 6) (tgt := 13) (by decide) dX12_isNone_6 (fun c3 => ?_) (fun c3 => ?_)
    · replace h0 := qi_t h0 c3
      refine ev_iconst (pc := 13) (v := 0) (by decide) dX12_isNone_13 ?_
      exact ev_ireturn (pc := 14) rfl rfl (qRI_eq h0) dX12_isNone_14
    · replace h0 := qi_f h0 c3
      refine ev_iconst (pc := 9) (v := 1) (by decide) dX12_isNone_9 ?_
      refine ev_goto (pc := 10) (tgt := 14) (by decide) dX12_isNone_10 ?_
      exact ev_ireturn (pc := 14) rfl rfl (qRI_eq h0) dX12_isNone_14
theorem dX12_point_0 : decode cX12_point 0 = .ok (.aload_n 0, 1) := by decide +kernel
theorem dX12_point_1 : decode cX12_point 1 = .ok (.getfield 71, 3) := by decide +kernel
theorem dX12_point_4 : decode cX12_point 4 = .ok (.iconst 0, 1) := by decide +kernel
theorem dX12_point_5 : decode cX12_point 5 = .ok (.iload_n 1, 1) := by decide +kernel
theorem dX12_point_6 : decode cX12_point 6 = .ok (.i2l, 1) := by decide +kernel
theorem dX12_point_7 : decode cX12_point 7 = .ok (.lastore, 1) := by decide +kernel
theorem dX12_point_8 : decode cX12_point 8 = .ok (.aload_n 0, 1) := by decide +kernel
theorem dX12_point_9 : decode cX12_point 9 = .ok (.getfield 71, 3) := by decide +kernel
theorem dX12_point_12 : decode cX12_point 12 = .ok (.iconst 1, 1) := by decide +kernel
theorem dX12_point_13 : decode cX12_point 13 = .ok (.iload_n 2, 1) := by decide +kernel
theorem dX12_point_14 : decode cX12_point 14 = .ok (.i2l, 1) := by decide +kernel
theorem dX12_point_15 : decode cX12_point 15 = .ok (.lastore, 1) := by decide +kernel
theorem dX12_point_16 : decode cX12_point 16 = .ok (.aload_n 0, 1) := by decide +kernel
theorem dX12_point_17 : decode cX12_point 17 = .ok (.getfield 71, 3) := by decide +kernel
theorem dX12_point_20 : decode cX12_point 20 = .ok (.iconst 2, 1) := by decide +kernel
theorem dX12_point_21 : decode cX12_point 21 = .ok (.iload_n 3, 1) := by decide +kernel
theorem dX12_point_22 : decode cX12_point 22 = .ok (.i2l, 1) := by decide +kernel
theorem dX12_point_23 : decode cX12_point 23 = .ok (.ldc2_w 25, 3) := by decide +kernel
theorem dX12_point_26 : decode cX12_point 26 = .ok (.land, 1) := by decide +kernel
theorem dX12_point_27 : decode cX12_point 27 = .ok (.lastore, 1) := by decide +kernel
theorem dX12_point_28 : decode cX12_point 28 = .ok (.aload_n 0, 1) := by decide +kernel
theorem dX12_point_29 : decode cX12_point 29 = .ok (.getfield 71, 3) := by decide +kernel
theorem dX12_point_32 : decode cX12_point 32 = .ok (.iconst 3, 1) := by decide +kernel
theorem dX12_point_33 : decode cX12_point 33 = .ok (.iload 4, 2) := by decide +kernel
theorem dX12_point_35 : decode cX12_point 35 = .ok (.i2l, 1) := by decide +kernel
theorem dX12_point_36 : decode cX12_point 36 = .ok (.ldc2_w 25, 3) := by decide +kernel
theorem dX12_point_39 : decode cX12_point 39 = .ok (.land, 1) := by decide +kernel
theorem dX12_point_40 : decode cX12_point 40 = .ok (.lastore, 1) := by decide +kernel
theorem dX12_point_41 : decode cX12_point 41 = .ok (.aload_n 0, 1) := by decide +kernel
theorem dX12_point_42 : decode cX12_point 42 = .ok (.getfield 71, 3) := by decide +kernel
theorem dX12_point_45 : decode cX12_point 45 = .ok (.iconst 4, 1) := by decide +kernel
theorem dX12_point_46 : decode cX12_point 46 = .ok (.iload 5, 2) := by decide +kernel
theorem dX12_point_48 : decode cX12_point 48 = .ok (.i2l, 1) := by decide +kernel
theorem dX12_point_49 : decode cX12_point 49 = .ok (.lastore, 1) := by decide +kernel
theorem dX12_point_50 : decode cX12_point 50 = .ok (.aload_n 0, 1) := by decide +kernel
theorem dX12_point_51 : decode cX12_point 51 = .ok (.getfield 71, 3) := by decide +kernel
theorem dX12_point_54 : decode cX12_point 54 = .ok (.iconst 5, 1) := by decide +kernel
theorem dX12_point_55 : decode cX12_point 55 = .ok (.iload 6, 2) := by decide +kernel
theorem dX12_point_57 : decode cX12_point 57 = .ok (.i2l, 1) := by decide +kernel
theorem dX12_point_58 : decode cX12_point 58 = .ok (.lastore, 1) := by decide +kernel
theorem dX12_point_59 : decode cX12_point 59 = .ok (.return_, 1) := by decide +kernel
theorem e_X12_point {X : gk_X} {F : Nat} {S : gk_S} {a : Nat} {p0 : Int32} {p1 : Int32} {p2 : Int32} {p3 : Int32} {p4 : Int32} {p5 : Int32} {r : (Unit × gk_S)} (h0 : f_X12_point F S a p0 p1 p2 p3 p4 p5 = some r) : EvM X m_X12_point 1 0 0 [.ref a, .int p0, .int p1, .int p2, .int p3, .int p4, .int p5] S (qRU r) := by
  unfold f_X12_point at h0
  refine ev_method (by decide +kernel) rfl rfl (Nat.le_of_ble_eq_true rfl) ?_
  show EvW X m_X12_point 1 0 0 0 [some (.ref a), some (.int p0), some (.int p1), some (.int p2), some (.int p3), some (.int p4), some (.int p5)] [] S _
  refine ev_aload_n (pc := 0) (i := 0) rfl rfl rfl dX12_point_0 ?_
  obtain ⟨g1, h2⟩ := qk_el h0; clear h0
  obtain ⟨b3, e4, h5⟩ := qP_el h2; clear h2
  refine xv_getP (pc := 1) fn_922 (isb_el g1) e4 gw_1162 dX12_point_1 ?_
  refine ev_iconst (pc := 4) (v := 0) (by decide) dX12_point_4 ?_
  refine ev_iload_n (pc := 5) (i := 1) rfl rfl dX12_point_5 ?_
  refine ev_i2l (pc := 6)  dX12_point_6 ?_
  obtain ⟨g6, h7⟩ := qk_el h5; clear h5
  obtain ⟨g8, h9⟩ := qk_el h7; clear h7
  obtain ⟨S10, e11, h12⟩ := qv_el h9; clear h9
  refine yv_last (pc := 7) (isb_el g6) (inb_el g8) e11 dX12_point_7 ?_
  refine ev_aload_n (pc := 8) (i := 0) rfl rfl rfl dX12_point_8 ?_
  obtain ⟨b13, e14, h15⟩ := qP_el h12; clear h12
  refine xv_getP (pc := 9) fn_922 (is_wJ (isb_el g1) e11) e14 gw_1162 dX12_point_9 ?_
  refine ev_iconst (pc := 12) (v := 1) (by decide) dX12_point_12 ?_
  refine ev_iload_n (pc := 13) (i := 2) rfl rfl dX12_point_13 ?_
  refine ev_i2l (pc := 14)  dX12_point_14 ?_
  obtain ⟨g16, h17⟩ := qk_el h15; clear h15
  obtain ⟨g18, h19⟩ := qk_el h17; clear h17
  obtain ⟨S20, e21, h22⟩ := qv_el h19; clear h19
  refine yv_last (pc := 15) (isb_el g16) (inb_el g18) e21 dX12_point_15 ?_
  refine ev_aload_n (pc := 16) (i := 0) rfl rfl rfl dX12_point_16 ?_
  obtain ⟨b23, e24, h25⟩ := qP_el h22; clear h22
  refine xv_getP (pc := 17) fn_922 (is_wJ (is_wJ (isb_el g1) e11) e21) e24 gw_1162 dX12_point_17 ?_
  refine ev_iconst (pc := 20) (v := 2) (by decide) dX12_point_20 ?_
  refine ev_iload_n (pc := 21) (i := 3) rfl rfl dX12_point_21 ?_
  refine ev_i2l (pc := 22)  dX12_point_22 ?_
  refine ev_ldc2 (pc := 23) (v := 4294967295) gw_1349 dX12_point_23 ?_
  refine ev_land (pc := 26)  dX12_point_26 ?_
  obtain ⟨g26, h27⟩ := qk_el h25; clear h25
  obtain ⟨g28, h29⟩ := qk_el h27; clear h27
  obtain ⟨S30, e31, h32⟩ := qv_el h29; clear h29
  refine yv_last (pc := 27) (isb_el g26) (inb_el g28) e31 dX12_point_27 ?_
  refine ev_aload_n (pc := 28) (i := 0) rfl rfl rfl dX12_point_28 ?_
  obtain ⟨b33, e34, h35⟩ := qP_el h32; clear h32
  refine xv_getP (pc := 29) fn_922 (is_wJ (is_wJ (is_wJ (isb_el g1) e11) e21) e31) e34 gw_1162 dX12_point_29 ?_
  refine ev_iconst (pc := 32) (v := 3) (by decide) dX12_point_32 ?_
  refine ev_iload (pc := 33) (i := 4) rfl dX12_point_33 ?_
  refine ev_i2l (pc := 35)  dX12_point_35 ?_
  refine ev_ldc2 (pc := 36) (v := 4294967295) gw_1349 dX12_point_36 ?_
  refine ev_land (pc := 39)  dX12_point_39 ?_
  obtain ⟨g36, h37⟩ := qk_el h35; clear h35
  obtain ⟨g38, h39⟩ := qk_el h37; clear h37
  obtain ⟨S40, e41, h42⟩ := qv_el h39; clear h39
  refine yv_last (pc := 40) (isb_el g36) (inb_el g38) e41 dX12_point_40 ?_
  refine ev_aload_n (pc := 41) (i := 0) rfl rfl rfl dX12_point_41 ?_
  obtain ⟨b43, e44, h45⟩ := qP_el h42; clear h42
  refine xv_getP (pc := 42) fn_922 (is_wJ (is_wJ (is_wJ (is_wJ (isb_el g1) e11) e21) e31) e41) e44 gw_1162 dX12_point_42 ?_
  refine ev_iconst (pc := 45) (v := 4) (by decide) dX12_point_45 ?_
  refine ev_iload (pc := 46) (i := 5) rfl dX12_point_46 ?_
  refine ev_i2l (pc := 48)  dX12_point_48 ?_
  obtain ⟨g46, h47⟩ := qk_el h45; clear h45
  obtain ⟨g48, h49⟩ := qk_el h47; clear h47
  obtain ⟨S50, e51, h52⟩ := qv_el h49; clear h49
  refine yv_last (pc := 49) (isb_el g46) (inb_el g48) e51 dX12_point_49 ?_
  refine ev_aload_n (pc := 50) (i := 0) rfl rfl rfl dX12_point_50 ?_
  obtain ⟨b53, e54, h55⟩ := qP_el h52; clear h52
  refine xv_getP (pc := 51) fn_922 (is_wJ (is_wJ (is_wJ (is_wJ (is_wJ (isb_el g1) e11) e21) e31) e41) e51) e54 gw_1162 dX12_point_51 ?_
  refine ev_iconst (pc := 54) (v := 5) (by decide) dX12_point_54 ?_
  refine ev_iload (pc := 55) (i := 6) rfl dX12_point_55 ?_
  refine ev_i2l (pc := 57)  dX12_point_57 ?_
  obtain ⟨g56, h57⟩ := qk_el h55; clear h55
  obtain ⟨g58, h59⟩ := qk_el h57; clear h57
  obtain ⟨S60, e61, h62⟩ := qv_el h59; clear h59
  refine yv_last (pc := 58) (isb_el g56) (inb_el g58) e61 dX12_point_58 ?_
  exact ev_return (pc := 59) rfl (qRU_eq h62) dX12_point_59
theorem dX12_first_0 : decode cX12_first 0 = .ok (.iconst 0, 1) := by decide +kernel
theorem dX12_first_1 : decode cX12_first 1 = .ok (.istore_n 3, 1) := by decide +kernel
theorem dX12_first_2 : decode cX12_first 2 = .ok (.iload_n 3, 1) := by decide +kernel
theorem dX12_first_3 : decode cX12_first 3 = .ok (.aload_n 0, 1) := by decide +kernel
theorem dX12_first_4 : decode cX12_first 4 = .ok (.getfield 46, 3) := by decide +kernel
theorem dX12_first_7 : decode cX12_first 7 = .ok (.iload_n 1, 1) := by decide +kernel
theorem dX12_first_8 : decode cX12_first 8 = .ok (.iaload, 1) := by decide +kernel
theorem dX12_first_9 : decode cX12_first 9 = .ok (.if_icmp .ge 122, 3) := by decide +kernel
theorem dX12_first_12 : decode cX12_first 12 = .ok (.bipush 16, 2) := by decide +kernel
theorem dX12_first_14 : decode cX12_first 14 = .ok (.iload_n 1, 1) := by decide +kernel
theorem dX12_first_15 : decode cX12_first 15 = .ok (.imul, 1) := by decide +kernel
theorem dX12_first_16 : decode cX12_first 16 = .ok (.iload_n 3, 1) := by decide +kernel
theorem dX12_first_17 : decode cX12_first 17 = .ok (.iadd, 1) := by decide +kernel
theorem dX12_first_18 : decode cX12_first 18 = .ok (.istore 4, 2) := by decide +kernel
theorem dX12_first_20 : decode cX12_first 20 = .ok (.aload_n 0, 1) := by decide +kernel
theorem dX12_first_21 : decode cX12_first 21 = .ok (.getfield 33, 3) := by decide +kernel
theorem dX12_first_24 : decode cX12_first 24 = .ok (.iload 4, 2) := by decide +kernel
theorem dX12_first_26 : decode cX12_first 26 = .ok (.iaload, 1) := by decide +kernel
theorem dX12_first_27 : decode cX12_first 27 = .ok (.iload_n 2, 1) := by decide +kernel
theorem dX12_first_28 : decode cX12_first 28 = .ok (.ishr, 1) := by decide +kernel
theorem dX12_first_29 : decode cX12_first 29 = .ok (.iconst 1, 1) := by decide +kernel
theorem dX12_first_30 : decode cX12_first 30 = .ok (.iand, 1) := by decide +kernel
theorem dX12_first_31 : decode cX12_first 31 = .ok (.iconst 1, 1) := by decide +kernel
theorem dX12_first_32 : decode cX12_first 32 = .ok (.if_icmp .ne 7, 3) := by decide +kernel
theorem dX12_first_35 : decode cX12_first 35 = .ok (.iconst 1, 1) := by decide +kernel
theorem dX12_first_36 : decode cX12_first 36 = .ok (.goto 4, 3) := by decide +kernel
theorem dX12_first_39 : decode cX12_first 39 = .ok (.iconst 0, 1) := by decide +kernel
theorem dX12_first_40 : decode cX12_first 40 = .ok (.istore 5, 2) := by decide +kernel
theorem dX12_first_42 : decode cX12_first 42 = .ok (.iconst 0, 1) := by decide +kernel
theorem dX12_first_43 : decode cX12_first 43 = .ok (.istore 6, 2) := by decide +kernel
theorem dX12_first_45 : decode cX12_first 45 = .ok (.iload 6, 2) := by decide +kernel
theorem dX12_first_47 : decode cX12_first 47 = .ok (.bipush 6, 2) := by decide +kernel
theorem dX12_first_49 : decode cX12_first 49 = .ok (.if_icmp .ge 69, 3) := by decide +kernel
theorem dX12_first_52 : decode cX12_first 52 = .ok (.iload 5, 2) := by decide +kernel
theorem dX12_first_54 : decode cX12_first 54 = .ok (.ifCond .eq 64, 3) := by decide +kernel
theorem dX12_first_57 : decode cX12_first 57 = .ok (.aload_n 0, 1) := by decide +kernel
theorem dX12_first_58 : decode cX12_first 58 = .ok (.getfield 36, 3) := by decide +kernel
theorem dX12_first_61 : decode cX12_first 61 = .ok (.bipush 6, 2) := by decide +kernel
theorem dX12_first_63 : decode cX12_first 63 = .ok (.iload 4, 2) := by decide +kernel
theorem dX12_first_65 : decode cX12_first 65 = .ok (.imul, 1) := by decide +kernel
theorem dX12_first_66 : decode cX12_first 66 = .ok (.iload 6, 2) := by decide +kernel
theorem dX12_first_68 : decode cX12_first 68 = .ok (.iadd, 1) := by decide +kernel
theorem dX12_first_69 : decode cX12_first 69 = .ok (.laload, 1) := by decide +kernel
theorem dX12_first_70 : decode cX12_first 70 = .ok (.aload_n 0, 1) := by decide +kernel
theorem dX12_first_71 : decode cX12_first 71 = .ok (.getfield 71, 3) := by decide +kernel
theorem dX12_first_74 : decode cX12_first 74 = .ok (.iload 6, 2) := by decide +kernel
theorem dX12_first_76 : decode cX12_first 76 = .ok (.laload, 1) := by decide +kernel
theorem dX12_first_77 : decode cX12_first 77 = .ok (.lcmp, 1) := by decide +kernel
theorem dX12_first_78 : decode cX12_first 78 = .ok (.ifCond .gt 31, 3) := by decide +kernel
theorem dX12_first_81 : decode cX12_first 81 = .ok (.aload_n 0, 1) := by decide +kernel
theorem dX12_first_82 : decode cX12_first 82 = .ok (.getfield 71, 3) := by decide +kernel
theorem dX12_first_85 : decode cX12_first 85 = .ok (.iload 6, 2) := by decide +kernel
theorem dX12_first_87 : decode cX12_first 87 = .ok (.laload, 1) := by decide +kernel
theorem dX12_first_88 : decode cX12_first 88 = .ok (.aload_n 0, 1) := by decide +kernel
theorem dX12_first_89 : decode cX12_first 89 = .ok (.getfield 40, 3) := by decide +kernel
theorem dX12_first_92 : decode cX12_first 92 = .ok (.bipush 6, 2) := by decide +kernel
theorem dX12_first_94 : decode cX12_first 94 = .ok (.iload 4, 2) := by decide +kernel
theorem dX12_first_96 : decode cX12_first 96 = .ok (.imul, 1) := by decide +kernel
theorem dX12_first_97 : decode cX12_first 97 = .ok (.iload 6, 2) := by decide +kernel
theorem dX12_first_99 : decode cX12_first 99 = .ok (.iadd, 1) := by decide +kernel
theorem dX12_first_100 : decode cX12_first 100 = .ok (.laload, 1) := by decide +kernel
theorem dX12_first_101 : decode cX12_first 101 = .ok (.lcmp, 1) := by decide +kernel
theorem dX12_first_102 : decode cX12_first 102 = .ok (.ifCond .gt 7, 3) := by decide +kernel
theorem dX12_first_105 : decode cX12_first 105 = .ok (.iconst 1, 1) := by decide +kernel
theorem dX12_first_106 : decode cX12_first 106 = .ok (.goto 4, 3) := by decide +kernel
theorem dX12_first_109 : decode cX12_first 109 = .ok (.iconst 0, 1) := by decide +kernel
theorem dX12_first_110 : decode cX12_first 110 = .ok (.istore 5, 2) := by decide +kernel
theorem dX12_first_112 : decode cX12_first 112 = .ok (.iinc 6 1, 3) := by decide +kernel
theorem dX12_first_115 : decode cX12_first 115 = .ok (.goto (-70), 3) := by decide +kernel
theorem dX12_first_118 : decode cX12_first 118 = .ok (.iload 5, 2) := by decide +kernel
theorem dX12_first_120 : decode cX12_first 120 = .ok (.ifCond .eq 5, 3) := by decide +kernel
theorem dX12_first_123 : decode cX12_first 123 = .ok (.iload_n 3, 1) := by decide +kernel
theorem dX12_first_124 : decode cX12_first 124 = .ok (.ireturn, 1) := by decide +kernel
theorem dX12_first_125 : decode cX12_first 125 = .ok (.iinc 3 1, 3) := by decide +kernel
theorem dX12_first_128 : decode cX12_first 128 = .ok (.goto (-126), 3) := by decide +kernel
theorem dX12_first_131 : decode cX12_first 131 = .ok (.iconst (-1), 1) := by decide +kernel
theorem dX12_first_132 : decode cX12_first 132 = .ok (.ireturn, 1) := by decide +kernel
theorem e_X12_first_45 {X : gk_X} {F : Nat} {k2 : Nat → Int32 → Int32 → Int32 → gk_S → Option (Int32 × gk_S)} (hk2 : ∀ (l0 : Nat) (l1 : Int32) (l2 : Int32) (l3 : Int32) (S : gk_S) (r : (Int32 × gk_S)), k2 l0 l1 l2 l3 S = some r → EvW X m_X12_first 1 0 0 2 [some (.ref l0), some (.int l1), some (.int l2), some (.int l3), none, none, none] [] S (qRI r)) : ∀ (n : Nat) (l0 : Nat) (l1 : Int32) (l2 : Int32) (l3 : Int32) (l4 : Int32) (l5 : Int32) (l6 : Int32) (S : gk_S) (r : (Int32 × gk_S)), f_X12_first_45 F k2 n l0 l1 l2 l3 l4 l5 l6 S = some r → EvW X m_X12_first 1 0 0 45 [some (.ref l0), some (.int l1), some (.int l2), some (.int l3), some (.int l4), some (.int l5), some (.int l6)] [] S (qRI r) := by
  intro n
  induction n with
  | zero => intro l0 l1 l2 l3 l4 l5 l6 S r h0; rw [f_X12_first_45] at h0; cases h0
  | succ n ih =>
    intro l0 l1 l2 l3 l4 l5 l6 S r h0; rw [f_X12_first_45] at h0
    refine ev_iload (pc := 45) (i := 6) rfl dX12_first_45 ?_
    refine ev_bipush (pc := 47) (v := 6) (by decide) dX12_first_47 ?_
    refine ev_ic_ge (pc := 49) (tgt := 118) (by decide) dX12_first_49 (fun c27 => ?_) (fun c27 => ?_)
    · replace h0 := qi_t h0 c27
      refine ev_iload (pc := 118) (i := 5) rfl dX12_first_118 ?_
      refine ev_if_eq (pc := 120) (tgt := 125) (by decide) dX12_first_120 (fun c29 => ?_) (fun c29 => ?_)
      · replace h0 := qi_t h0 c29
        refine ev_iinc (pc := 125) (L' := [some (.ref l0), some (.int l1), some (.int l2), some (.int (l3 + 1)), some (.int l4), some (.int l5), some (.int l6)]) (i := 3) (v := (l3 + 1)) rfl rfl (by decide) rfl rfl dX12_first_125 ?_
        refine ev_goto (pc := 128) (tgt := 2) (by decide) dX12_first_128 ?_
        exact ev_weak (qL_s (qL_s (qL_s (qL_s (qL_n (qL_n (qL_n qL_nil))))))) (hk2 _ _ _ _ _ _ h0)
      · replace h0 := qi_f h0 c29
        refine ev_iload_n (pc := 123) (i := 3) rfl rfl dX12_first_123 ?_
        exact ev_ireturn (pc := 124) rfl (nar_int _) (qRI_eq h0) dX12_first_124
    · replace h0 := qi_f h0 c27
      refine ev_iload (pc := 52) (i := 5) rfl dX12_first_52 ?_
      refine ev_if_eq (pc := 54) (tgt := 118) (by decide) dX12_first_54 (fun c31 => ?_) (fun c31 => ?_)
      · replace h0 := qi_t h0 c31
        refine ev_iload (pc := 118) (i := 5) rfl dX12_first_118 ?_
        refine ev_if_eq (pc := 120) (tgt := 125) (by decide) dX12_first_120 (fun c33 => ?_) (fun c33 => ?_)
        · replace h0 := qi_t h0 c33
          refine ev_iinc (pc := 125) (L' := [some (.ref l0), some (.int l1), some (.int l2), some (.int (l3 + 1)), some (.int l4), some (.int l5), some (.int l6)]) (i := 3) (v := (l3 + 1)) rfl rfl (by decide) rfl rfl dX12_first_125 ?_
          refine ev_goto (pc := 128) (tgt := 2) (by decide) dX12_first_128 ?_
          exact ev_weak (qL_s (qL_s (qL_s (qL_s (qL_n (qL_n (qL_n qL_nil))))))) (hk2 _ _ _ _ _ _ h0)
        · replace h0 := qi_f h0 c33
          refine ev_iload_n (pc := 123) (i := 3) rfl rfl dX12_first_123 ?_
          exact ev_ireturn (pc := 124) rfl (nar_int _) (qRI_eq h0) dX12_first_124
      · replace h0 := qi_f h0 c31
        refine ev_aload_n (pc := 57) (i := 0) rfl rfl rfl dX12_first_57 ?_
        obtain ⟨g35, h36⟩ := qk_el h0; clear h0
        obtain ⟨b37, e38, h39⟩ := qP_el h36; clear h36
        refine xv_getP (pc := 58) fn_909 (isb_el g35) e38 gw_1149 dX12_first_58 ?_
        refine ev_bipush (pc := 61) (v := 6) (by decide) dX12_first_61 ?_
        refine ev_iload (pc := 63) (i := 4) rfl dX12_first_63 ?_
        refine ev_imul (pc := 65)  dX12_first_65 ?_
        refine ev_iload (pc := 66) (i := 6) rfl dX12_first_66 ?_
        refine ev_iadd (pc := 68)  dX12_first_68 ?_
        obtain ⟨g40, h41⟩ := qk_el h39; clear h39
        obtain ⟨g42, h43⟩ := qk_el h41; clear h41
        obtain ⟨x44, e45, h46⟩ := qv_el h43; clear h43
        refine yv_lald (pc := 69) (isb_el g40) (inb_el g42) e45 dX12_first_69 ?_
        refine ev_aload_n (pc := 70) (i := 0) rfl rfl rfl dX12_first_70 ?_
        obtain ⟨b47, e48, h49⟩ := qP_el h46; clear h46
        refine xv_getP (pc := 71) fn_922 (isb_el g35) e48 gw_1162 dX12_first_71 ?_
        refine ev_iload (pc := 74) (i := 6) rfl dX12_first_74 ?_
        obtain ⟨g50, h51⟩ := qk_el h49; clear h49
        obtain ⟨g52, h53⟩ := qk_el h51; clear h51
        obtain ⟨x54, e55, h56⟩ := qv_el h53; clear h53
        refine yv_lald (pc := 76) (isb_el g50) (inb_el g52) e55 dX12_first_76 ?_
        refine ev_lcmp (pc := 77)  dX12_first_77 ?_
        refine ev_if_gt (pc := 78) (tgt := 109) (by decide) dX12_first_78 (fun c57 => ?_) (fun c57 => ?_)
        · replace h56 := qi_t h56 (lc_gt c57)
          refine ev_iconst (pc := 109) (v := 0) (by decide) dX12_first_109 ?_
          refine ev_istore (pc := 110) (L' := [some (.ref l0), some (.int l1), some (.int l2), some (.int l3), some (.int l4), some (.int 0), some (.int l6)]) (i := 5) (by decide) rfl rfl dX12_first_110 ?_
          refine ev_iinc (pc := 112) (L' := [some (.ref l0), some (.int l1), some (.int l2), some (.int l3), some (.int l4), some (.int 0), some (.int (l6 + 1))]) (i := 6) (v := (l6 + 1)) rfl rfl (by decide) rfl rfl dX12_first_112 ?_
          refine ev_goto (pc := 115) (tgt := 45) (by decide) dX12_first_115 ?_
          exact (ev_weak (qL_s (qL_s (qL_s (qL_s (qL_s (qL_s (qL_s qL_nil))))))) (ih _ _ _ _ _ _ _ _ _ h56))
        · replace h56 := qi_f h56 (lc_gtN c57)
          refine ev_aload_n (pc := 81) (i := 0) rfl rfl rfl dX12_first_81 ?_
          obtain ⟨b59, e60, h61⟩ := qP_el h56; clear h56
          refine xv_getP (pc := 82) fn_922 (isb_el g35) e60 gw_1162 dX12_first_82 ?_
          refine ev_iload (pc := 85) (i := 6) rfl dX12_first_85 ?_
          obtain ⟨g62, h63⟩ := qk_el h61; clear h61
          obtain ⟨g64, h65⟩ := qk_el h63; clear h63
          obtain ⟨x66, e67, h68⟩ := qv_el h65; clear h65
          refine yv_lald (pc := 87) (isb_el g62) (inb_el g64) e67 dX12_first_87 ?_
          refine ev_aload_n (pc := 88) (i := 0) rfl rfl rfl dX12_first_88 ?_
          obtain ⟨b69, e70, h71⟩ := qP_el h68; clear h68
          refine xv_getP (pc := 89) fn_910 (isb_el g35) e70 gw_1150 dX12_first_89 ?_
          refine ev_bipush (pc := 92) (v := 6) (by decide) dX12_first_92 ?_
          refine ev_iload (pc := 94) (i := 4) rfl dX12_first_94 ?_
          refine ev_imul (pc := 96)  dX12_first_96 ?_
          refine ev_iload (pc := 97) (i := 6) rfl dX12_first_97 ?_
          refine ev_iadd (pc := 99)  dX12_first_99 ?_
          obtain ⟨g72, h73⟩ := qk_el h71; clear h71
          obtain ⟨g74, h75⟩ := qk_el h73; clear h73
          obtain ⟨x76, e77, h78⟩ := qv_el h75; clear h75
          refine yv_lald (pc := 100) (isb_el g72) (inb_el g74) e77 dX12_first_100 ?_
          refine ev_lcmp (pc := 101)  dX12_first_101 ?_
          refine ev_if_gt (pc := 102) (tgt := 109) (by decide) dX12_first_102 (fun c79 => ?_) (fun c79 => ?_)
          · replace h78 := qi_t h78 (lc_gt c79)
            refine ev_iconst (pc := 109) (v := 0) (by decide) dX12_first_109 ?_
            refine ev_istore (pc := 110) (L' := [some (.ref l0), some (.int l1), some (.int l2), some (.int l3), some (.int l4), some (.int 0), some (.int l6)]) (i := 5) (by decide) rfl rfl dX12_first_110 ?_
            refine ev_iinc (pc := 112) (L' := [some (.ref l0), some (.int l1), some (.int l2), some (.int l3), some (.int l4), some (.int 0), some (.int (l6 + 1))]) (i := 6) (v := (l6 + 1)) rfl rfl (by decide) rfl rfl dX12_first_112 ?_
            refine ev_goto (pc := 115) (tgt := 45) (by decide) dX12_first_115 ?_
            exact (ev_weak (qL_s (qL_s (qL_s (qL_s (qL_s (qL_s (qL_s qL_nil))))))) (ih _ _ _ _ _ _ _ _ _ h78))
          · replace h78 := qi_f h78 (lc_gtN c79)
            refine ev_iconst (pc := 105) (v := 1) (by decide) dX12_first_105 ?_
            refine ev_goto (pc := 106) (tgt := 110) (by decide) dX12_first_106 ?_
            refine ev_istore (pc := 110) (L' := [some (.ref l0), some (.int l1), some (.int l2), some (.int l3), some (.int l4), some (.int 1), some (.int l6)]) (i := 5) (by decide) rfl rfl dX12_first_110 ?_
            refine ev_iinc (pc := 112) (L' := [some (.ref l0), some (.int l1), some (.int l2), some (.int l3), some (.int l4), some (.int 1), some (.int (l6 + 1))]) (i := 6) (v := (l6 + 1)) rfl rfl (by decide) rfl rfl dX12_first_112 ?_
            refine ev_goto (pc := 115) (tgt := 45) (by decide) dX12_first_115 ?_
            exact (ev_weak (qL_s (qL_s (qL_s (qL_s (qL_s (qL_s (qL_s qL_nil))))))) (ih _ _ _ _ _ _ _ _ _ h78))
theorem e_X12_first_2 {X : gk_X} {F : Nat} : ∀ (n : Nat) (l0 : Nat) (l1 : Int32) (l2 : Int32) (l3 : Int32) (S : gk_S) (r : (Int32 × gk_S)), f_X12_first_2 F n l0 l1 l2 l3 S = some r → EvW X m_X12_first 1 0 0 2 [some (.ref l0), some (.int l1), some (.int l2), some (.int l3), none, none, none] [] S (qRI r) := by
  intro n
  induction n with
  | zero => intro l0 l1 l2 l3 S r h0; rw [f_X12_first_2] at h0; cases h0
  | succ n ih =>
    intro l0 l1 l2 l3 S r h0; rw [f_X12_first_2] at h0
    refine ev_iload_n (pc := 2) (i := 3) rfl rfl dX12_first_2 ?_
    refine ev_aload_n (pc := 3) (i := 0) rfl rfl rfl dX12_first_3 ?_
    obtain ⟨g1, h2⟩ := qk_el h0; clear h0
    obtain ⟨b3, e4, h5⟩ := qP_el h2; clear h2
    refine xv_getP (pc := 4) fn_906 (isb_el g1) e4 gw_1146 dX12_first_4 ?_
    refine ev_iload_n (pc := 7) (i := 1) rfl rfl dX12_first_7 ?_
    obtain ⟨g6, h7⟩ := qk_el h5; clear h5
    obtain ⟨g8, h9⟩ := qk_el h7; clear h7
    obtain ⟨x10, e11, h12⟩ := qv_el h9; clear h9
    refine yv_iald (pc := 8) (isb_el g6) (inb_el g8) e11 dX12_first_8 ?_
    refine ev_ic_ge (pc := 9) (tgt := 131) (by decide) dX12_first_9 (fun c13 => ?_) (fun c13 => ?_)
    · replace h12 := qi_t h12 c13
      refine ev_iconst (pc := 131) (v := -1) (by decide) dX12_first_131 ?_
      exact ev_ireturn (pc := 132) rfl (nar_int _) (qRI_eq h12) dX12_first_132
    · replace h12 := qi_f h12 c13
      refine ev_bipush (pc := 12) (v := 16) (by decide) dX12_first_12 ?_
      refine ev_iload_n (pc := 14) (i := 1) rfl rfl dX12_first_14 ?_
      refine ev_imul (pc := 15)  dX12_first_15 ?_
      refine ev_iload_n (pc := 16) (i := 3) rfl rfl dX12_first_16 ?_
      refine ev_iadd (pc := 17)  dX12_first_17 ?_
      refine ev_istore (pc := 18) (L' := [some (.ref l0), some (.int l1), some (.int l2), some (.int l3), some (.int ((16 * l1) + l3)), none, none]) (i := 4) (by decide) rfl rfl dX12_first_18 ?_
      refine ev_aload_n (pc := 20) (i := 0) rfl rfl rfl dX12_first_20 ?_
      obtain ⟨b15, e16, h17⟩ := qP_el h12; clear h12
      refine xv_getP (pc := 21) fn_908 (isb_el g1) e16 gw_1148 dX12_first_21 ?_
      refine ev_iload (pc := 24) (i := 4) rfl dX12_first_24 ?_
      obtain ⟨g18, h19⟩ := qk_el h17; clear h17
      obtain ⟨g20, h21⟩ := qk_el h19; clear h19
      obtain ⟨x22, e23, h24⟩ := qv_el h21; clear h21
      refine yv_iald (pc := 26) (isb_el g18) (inb_el g20) e23 dX12_first_26 ?_
      refine ev_iload_n (pc := 27) (i := 2) rfl rfl dX12_first_27 ?_
      refine ev_ishr (pc := 28)  dX12_first_28 ?_
      refine ev_iconst (pc := 29) (v := 1) (by decide) dX12_first_29 ?_
      refine ev_iand (pc := 30)  dX12_first_30 ?_
      refine ev_iconst (pc := 31) (v := 1) (by decide) dX12_first_31 ?_
      refine ev_ic_ne (pc := 32) (tgt := 39) (by decide) dX12_first_32 (fun c25 => ?_) (fun c25 => ?_)
      · replace h24 := qi_f h24 c25
        refine ev_iconst (pc := 39) (v := 0) (by decide) dX12_first_39 ?_
        refine ev_istore (pc := 40) (L' := [some (.ref l0), some (.int l1), some (.int l2), some (.int l3), some (.int ((16 * l1) + l3)), some (.int 0), none]) (i := 5) (by decide) rfl rfl dX12_first_40 ?_
        refine ev_iconst (pc := 42) (v := 0) (by decide) dX12_first_42 ?_
        refine ev_istore (pc := 43) (L' := [some (.ref l0), some (.int l1), some (.int l2), some (.int l3), some (.int ((16 * l1) + l3)), some (.int 0), some (.int 0)]) (i := 6) (by decide) rfl rfl dX12_first_43 ?_
        exact ev_weak (qL_s (qL_s (qL_s (qL_s (qL_s (qL_s (qL_s qL_nil))))))) (e_X12_first_45 ih F _ _ _ _ _ _ _ _ _ h24)
      · replace h24 := qi_t h24 c25
        refine ev_iconst (pc := 35) (v := 1) (by decide) dX12_first_35 ?_
        refine ev_goto (pc := 36) (tgt := 40) (by decide) dX12_first_36 ?_
        refine ev_istore (pc := 40) (L' := [some (.ref l0), some (.int l1), some (.int l2), some (.int l3), some (.int ((16 * l1) + l3)), some (.int 1), none]) (i := 5) (by decide) rfl rfl dX12_first_40 ?_
        refine ev_iconst (pc := 42) (v := 0) (by decide) dX12_first_42 ?_
        refine ev_istore (pc := 43) (L' := [some (.ref l0), some (.int l1), some (.int l2), some (.int l3), some (.int ((16 * l1) + l3)), some (.int 1), some (.int 0)]) (i := 6) (by decide) rfl rfl dX12_first_43 ?_
        exact ev_weak (qL_s (qL_s (qL_s (qL_s (qL_s (qL_s (qL_s qL_nil))))))) (e_X12_first_45 ih F _ _ _ _ _ _ _ _ _ h24)
theorem e_X12_first {X : gk_X} {F : Nat} {S : gk_S} {a : Nat} {p0 : Int32} {p1 : Int32} {r : (Int32 × gk_S)} (h0 : f_X12_first F S a p0 p1 = some r) : EvM X m_X12_first 1 0 0 [.ref a, .int p0, .int p1] S (qRI r) := by
  unfold f_X12_first at h0
  refine ev_method (by decide +kernel) rfl rfl (Nat.le_of_ble_eq_true rfl) ?_
  show EvW X m_X12_first 1 0 0 0 [some (.ref a), some (.int p0), some (.int p1), none, none, none, none] [] S _
  refine ev_iconst (pc := 0) (v := 0) (by decide) dX12_first_0 ?_
  refine ev_istore_n (pc := 1) (L' := [some (.ref a), some (.int p0), some (.int p1), some (.int 0), none, none, none]) (i := 3) rfl (by decide) rfl rfl dX12_first_1 ?_
  exact ev_weak (qL_s (qL_s (qL_s (qL_s (qL_n (qL_n (qL_n qL_nil))))))) (e_X12_first_2 F _ _ _ _ _ _ h0)
theorem dX12_match_0 : decode cX12_match 0 = .ok (.aload_n 0, 1) := by decide +kernel
theorem dX12_match_1 : decode cX12_match 1 = .ok (.iload_n 1, 1) := by decide +kernel
theorem dX12_match_2 : decode cX12_match 2 = .ok (.invokevirtual 222, 3) := by decide +kernel
theorem dX12_match_5 : decode cX12_match 5 = .ok (.ifCond .ne 63, 3) := by decide +kernel
theorem dX12_match_8 : decode cX12_match 8 = .ok (.aload_n 0, 1) := by decide +kernel
theorem dX12_match_9 : decode cX12_match 9 = .ok (.iload_n 2, 1) := by decide +kernel
theorem dX12_match_10 : decode cX12_match 10 = .ok (.iconst 3, 1) := by decide +kernel
theorem dX12_match_11 : decode cX12_match 11 = .ok (.invokestatic 250, 3) := by decide +kernel
theorem dX12_match_14 : decode cX12_match 14 = .ok (.ifCond .ne 42, 3) := by decide +kernel
theorem dX12_match_17 : decode cX12_match 17 = .ok (.iload_n 3, 1) := by decide +kernel
theorem dX12_match_18 : decode cX12_match 18 = .ok (.sipush 255, 3) := by decide +kernel
theorem dX12_match_21 : decode cX12_match 21 = .ok (.invokestatic 250, 3) := by decide +kernel
theorem dX12_match_24 : decode cX12_match 24 = .ok (.ifCond .ne 32, 3) := by decide +kernel
theorem dX12_match_27 : decode cX12_match 27 = .ok (.iload 6, 2) := by decide +kernel
theorem dX12_match_29 : decode cX12_match 29 = .ok (.ldc 253, 2) := by decide +kernel
theorem dX12_match_31 : decode cX12_match 31 = .ok (.invokestatic 250, 3) := by decide +kernel
theorem dX12_match_34 : decode cX12_match 34 = .ok (.ifCond .ne 22, 3) := by decide +kernel
theorem dX12_match_37 : decode cX12_match 37 = .ok (.iload 7, 2) := by decide +kernel
theorem dX12_match_39 : decode cX12_match 39 = .ok (.ldc 253, 2) := by decide +kernel
theorem dX12_match_41 : decode cX12_match 41 = .ok (.invokestatic 250, 3) := by decide +kernel
theorem dX12_match_44 : decode cX12_match 44 = .ok (.ifCond .ne 12, 3) := by decide +kernel
theorem dX12_match_47 : decode cX12_match 47 = .ok (.iload 8, 2) := by decide +kernel
theorem dX12_match_49 : decode cX12_match 49 = .ok (.iconst 3, 1) := by decide +kernel
theorem dX12_match_50 : decode cX12_match 50 = .ok (.invokestatic 250, 3) := by decide +kernel
theorem dX12_match_53 : decode cX12_match 53 = .ok (.ifCond .eq 7, 3) := by decide +kernel
theorem dX12_match_56 : decode cX12_match 56 = .ok (.iconst 1, 1) := by decide +kernel
theorem dX12_match_57 : decode cX12_match 57 = .ok (.goto 4, 3) := by decide +kernel
theorem dX12_match_60 : decode cX12_match 60 = .ok (.iconst 0, 1) := by decide +kernel
theorem dX12_match_61 : decode cX12_match 61 = .ok (.iconst 2, 1) := by decide +kernel
theorem dX12_match_62 : decode cX12_match 62 = .ok (.invokevirtual 176, 3) := by decide +kernel
theorem dX12_match_65 : decode cX12_match 65 = .ok (.ifCond .eq 5, 3) := by decide +kernel
theorem dX12_match_68 : decode cX12_match 68 = .ok (.iconst 0, 1) := by decide +kernel
theorem dX12_match_69 : decode cX12_match 69 = .ok (.ireturn, 1) := by decide +kernel
theorem dX12_match_70 : decode cX12_match 70 = .ok (.aload_n 0, 1) := by decide +kernel
theorem dX12_match_71 : decode cX12_match 71 = .ok (.iload_n 2, 1) := by decide +kernel
theorem dX12_match_72 : decode cX12_match 72 = .ok (.iload_n 3, 1) := by decide +kernel
theorem dX12_match_73 : decode cX12_match 73 = .ok (.iload 4, 2) := by decide +kernel
theorem dX12_match_75 : decode cX12_match 75 = .ok (.iload 5, 2) := by decide +kernel
theorem dX12_match_77 : decode cX12_match 77 = .ok (.iload 6, 2) := by decide +kernel
theorem dX12_match_79 : decode cX12_match 79 = .ok (.iload 7, 2) := by decide +kernel
theorem dX12_match_81 : decode cX12_match 81 = .ok (.invokevirtual 254, 3) := by decide +kernel
theorem dX12_match_84 : decode cX12_match 84 = .ok (.aload_n 0, 1) := by decide +kernel
theorem dX12_match_85 : decode cX12_match 85 = .ok (.iload_n 1, 1) := by decide +kernel
theorem dX12_match_86 : decode cX12_match 86 = .ok (.iload 8, 2) := by decide +kernel
theorem dX12_match_88 : decode cX12_match 88 = .ok (.invokevirtual 258, 3) := by decide +kernel
theorem dX12_match_91 : decode cX12_match 91 = .ok (.ireturn, 1) := by decide +kernel
theorem e_X12_match_61 {X : gk_X} {F : Nat} {l0 : Nat} {l1 : Int32} {l2 : Int32} {l3 : Int32} {l4 : Int32} {l5 : Int32} {l6 : Int32} {l7 : Int32} {l8 : Int32} {s0 : Int32} {s1 : Nat} {S : gk_S} {r : (Int32 × gk_S)} (h0 : f_X12_match_61 F l0 l1 l2 l3 l4 l5 l6 l7 l8 s0 s1 S = some r) : EvW X m_X12_match 3 0 0 61 [some (.ref l0), some (.int l1), some (.int l2), some (.int l3), some (.int l4), some (.int l5), some (.int l6), some (.int l7), some (.int l8)] [.int s0, .ref s1] S (qRI r) := by
  unfold f_X12_match_61 at h0
  refine ev_iconst (pc := 61) (v := 2) (by decide) dX12_match_61 ?_
  obtain ⟨g15, h16⟩ := qk_el h0; clear h0
  obtain ⟨x17, S18, e19, h20⟩ := qc_el h16; clear h16
  refine xv_callV (pc := 62) (st := []) (as := [.int s0, .int 2]) (v := (some (.int x17))) (S' := S18) ok_X12_throwsIf (e_X12_throwsIf e19) (isb_el g15) (by decide) rfl (Nat.le_of_ble_eq_true rfl) rfl gw_1272 dX12_match_62 ?_
  refine ev_if_eq (pc := 65) (tgt := 70) (by decide) dX12_match_65 (fun c21 => ?_) (fun c21 => ?_)
  · replace h20 := qi_t h20 c21
    refine ev_aload_n (pc := 70) (i := 0) rfl rfl rfl dX12_match_70 ?_
    refine ev_iload_n (pc := 71) (i := 2) rfl rfl dX12_match_71 ?_
    refine ev_iload_n (pc := 72) (i := 3) rfl rfl dX12_match_72 ?_
    refine ev_iload (pc := 73) (i := 4) rfl dX12_match_73 ?_
    refine ev_iload (pc := 75) (i := 5) rfl dX12_match_75 ?_
    refine ev_iload (pc := 77) (i := 6) rfl dX12_match_77 ?_
    refine ev_iload (pc := 79) (i := 7) rfl dX12_match_79 ?_
    obtain ⟨g23, h24⟩ := qk_el h20; clear h20
    obtain ⟨x25, S26, e27, h28⟩ := qc_el h24; clear h24
    refine xv_callV (pc := 81) (st := []) (as := [.int l2, .int l3, .int l4, .int l5, .int l6, .int l7]) (v := none) (S' := S26) ok_X12_point (e_X12_point e27) (isb_el g23) (by decide) rfl (Nat.le_of_ble_eq_true rfl) rfl gw_1436 dX12_match_81 ?_
    refine ev_aload_n (pc := 84) (i := 0) rfl rfl rfl dX12_match_84 ?_
    refine ev_iload_n (pc := 85) (i := 1) rfl rfl dX12_match_85 ?_
    refine ev_iload (pc := 86) (i := 8) rfl dX12_match_86 ?_
    obtain ⟨g29, h30⟩ := qk_el h28; clear h28
    obtain ⟨x31, S32, e33, h34⟩ := qc_el h30; clear h30
    refine xv_callV (pc := 88) (st := []) (as := [.int l1, .int l8]) (v := (some (.int x31))) (S' := S32) ok_X12_first (e_X12_first e33) (isb_el g29) (by decide) rfl (Nat.le_of_ble_eq_true rfl) rfl gw_1440 dX12_match_88 ?_
    exact ev_ireturn (pc := 91) rfl (nar_int _) (qRI_eq h34) dX12_match_91
  · replace h20 := qi_f h20 c21
    refine ev_iconst (pc := 68) (v := 0) (by decide) dX12_match_68 ?_
    exact ev_ireturn (pc := 69) rfl (nar_int _) (qRI_eq h20) dX12_match_69
theorem e_X12_match {X : gk_X} {F : Nat} {S : gk_S} {a : Nat} {p0 : Int32} {p1 : Int32} {p2 : Int32} {p3 : Int32} {p4 : Int32} {p5 : Int32} {p6 : Int32} {p7 : Int32} {r : (Int32 × gk_S)} (h0 : f_X12_match F S a p0 p1 p2 p3 p4 p5 p6 p7 = some r) : EvM X m_X12_match 3 0 0 [.ref a, .int p0, .int p1, .int p2, .int p3, .int p4, .int p5, .int p6, .int p7] S (qRI r) := by
  unfold f_X12_match at h0
  refine ev_method (by decide +kernel) rfl rfl (Nat.le_of_ble_eq_true rfl) ?_
  show EvW X m_X12_match 3 0 0 0 [some (.ref a), some (.int p0), some (.int p1), some (.int p2), some (.int p3), some (.int p4), some (.int p5), some (.int p6), some (.int p7)] [] S _
  refine ev_aload_n (pc := 0) (i := 0) rfl rfl rfl dX12_match_0 ?_
  refine ev_iload_n (pc := 1) (i := 1) rfl rfl dX12_match_1 ?_
  obtain ⟨g1, h2⟩ := qk_el h0; clear h0
  obtain ⟨x3, S4, e5, h6⟩ := qc_el h2; clear h2
  refine xv_callV (pc := 2) (st := []) (as := [.int p0]) (v := (some (.int x3))) (S' := S4) ok_X12_noList (e_X12_noList e5) (isb_el g1) (by decide) rfl (Nat.le_of_ble_eq_true rfl) rfl gw_1387 dX12_match_2 ?_
  refine ev_if_ne (pc := 5) (tgt := 68) (by decide) dX12_match_5 (fun c7 => ?_) (fun c7 => ?_)
  · replace h6 := qi_f h6 c7
    refine ev_iconst (pc := 68) (v := 0) (by decide) dX12_match_68 ?_
    exact ev_ireturn (pc := 69) rfl (nar_int _) (qRI_eq h6) dX12_match_69
  · replace h6 := qi_t h6 c7
    refine ev_aload_n (pc := 8) (i := 0) rfl rfl rfl dX12_match_8 ?_
    refine ev_iload_n (pc := 9) (i := 2) rfl rfl dX12_match_9 ?_
    refine ev_iconst (pc := 10) (v := 3) (by decide) dX12_match_10 ?_
    obtain ⟨x9, S10, e11, h12⟩ := qc_el h6; clear h6
    refine xv_callS (pc := 11) (st := [.ref a]) (as := [.int p1, .int 3]) (v := (some (.int x9))) (S' := S10) ok_X12_isNone (e_X12_isNone e11) (by decide) rfl (Nat.le_of_ble_eq_true rfl) rfl gw_1432 dX12_match_11 ?_
    refine ev_if_ne (pc := 14) (tgt := 56) (by decide) dX12_match_14 (fun c13 => ?_) (fun c13 => ?_)
    · replace h12 := qi_f h12 c13
      refine ev_iconst (pc := 56) (v := 1) (by decide) dX12_match_56 ?_
      refine ev_goto (pc := 57) (tgt := 61) (by decide) dX12_match_57 ?_
      exact ev_weak (qL_s (qL_s (qL_s (qL_s (qL_s (qL_s (qL_s (qL_s (qL_s qL_nil))))))))) (e_X12_match_61 h12)
    · replace h12 := qi_t h12 c13
      refine ev_iload_n (pc := 17) (i := 3) rfl rfl dX12_match_17 ?_
      refine ev_sipush (pc := 18) (v := 255) (by decide) dX12_match_18 ?_
      obtain ⟨x35, S36, e37, h38⟩ := qc_el h12; clear h12
      refine xv_callS (pc := 21) (st := [.ref a]) (as := [.int p2, .int 255]) (v := (some (.int x35))) (S' := S36) ok_X12_isNone (e_X12_isNone e37) (by decide) rfl (Nat.le_of_ble_eq_true rfl) rfl gw_1432 dX12_match_21 ?_
      refine ev_if_ne (pc := 24) (tgt := 56) (by decide) dX12_match_24 (fun c39 => ?_) (fun c39 => ?_)
      · replace h38 := qi_f h38 c39
        refine ev_iconst (pc := 56) (v := 1) (by decide) dX12_match_56 ?_
        refine ev_goto (pc := 57) (tgt := 61) (by decide) dX12_match_57 ?_
        exact ev_weak (qL_s (qL_s (qL_s (qL_s (qL_s (qL_s (qL_s (qL_s (qL_s qL_nil))))))))) (e_X12_match_61 h38)
      · replace h38 := qi_t h38 c39
        refine ev_iload (pc := 27) (i := 6) rfl dX12_match_27 ?_
        refine ev_ldc (pc := 29) (v := 65535) gw_1435 dX12_match_29 ?_
        obtain ⟨x41, S42, e43, h44⟩ := qc_el h38; clear h38
        refine xv_callS (pc := 31) (st := [.ref a]) (as := [.int p5, .int 65535]) (v := (some (.int x41))) (S' := S42) ok_X12_isNone (e_X12_isNone e43) (by decide) rfl (Nat.le_of_ble_eq_true rfl) rfl gw_1432 dX12_match_31 ?_
        refine ev_if_ne (pc := 34) (tgt := 56) (by decide) dX12_match_34 (fun c45 => ?_) (fun c45 => ?_)
        · replace h44 := qi_f h44 c45
          refine ev_iconst (pc := 56) (v := 1) (by decide) dX12_match_56 ?_
          refine ev_goto (pc := 57) (tgt := 61) (by decide) dX12_match_57 ?_
          exact ev_weak (qL_s (qL_s (qL_s (qL_s (qL_s (qL_s (qL_s (qL_s (qL_s qL_nil))))))))) (e_X12_match_61 h44)
        · replace h44 := qi_t h44 c45
          refine ev_iload (pc := 37) (i := 7) rfl dX12_match_37 ?_
          refine ev_ldc (pc := 39) (v := 65535) gw_1435 dX12_match_39 ?_
          obtain ⟨x47, S48, e49, h50⟩ := qc_el h44; clear h44
          refine xv_callS (pc := 41) (st := [.ref a]) (as := [.int p6, .int 65535]) (v := (some (.int x47))) (S' := S48) ok_X12_isNone (e_X12_isNone e49) (by decide) rfl (Nat.le_of_ble_eq_true rfl) rfl gw_1432 dX12_match_41 ?_
          refine ev_if_ne (pc := 44) (tgt := 56) (by decide) dX12_match_44 (fun c51 => ?_) (fun c51 => ?_)
          · replace h50 := qi_f h50 c51
            refine ev_iconst (pc := 56) (v := 1) (by decide) dX12_match_56 ?_
            refine ev_goto (pc := 57) (tgt := 61) (by decide) dX12_match_57 ?_
            exact ev_weak (qL_s (qL_s (qL_s (qL_s (qL_s (qL_s (qL_s (qL_s (qL_s qL_nil))))))))) (e_X12_match_61 h50)
          · replace h50 := qi_t h50 c51
            refine ev_iload (pc := 47) (i := 8) rfl dX12_match_47 ?_
            refine ev_iconst (pc := 49) (v := 3) (by decide) dX12_match_49 ?_
            obtain ⟨x53, S54, e55, h56⟩ := qc_el h50; clear h50
            refine xv_callS (pc := 50) (st := [.ref a]) (as := [.int p7, .int 3]) (v := (some (.int x53))) (S' := S54) ok_X12_isNone (e_X12_isNone e55) (by decide) rfl (Nat.le_of_ble_eq_true rfl) rfl gw_1432 dX12_match_50 ?_
            refine ev_if_eq (pc := 53) (tgt := 60) (by decide) dX12_match_53 (fun c57 => ?_) (fun c57 => ?_)
            · replace h56 := qi_t h56 c57
              refine ev_iconst (pc := 60) (v := 0) (by decide) dX12_match_60 ?_
              exact ev_weak (qL_s (qL_s (qL_s (qL_s (qL_s (qL_s (qL_s (qL_s (qL_s qL_nil))))))))) (e_X12_match_61 h56)
            · replace h56 := qi_f h56 c57
              refine ev_iconst (pc := 56) (v := 1) (by decide) dX12_match_56 ?_
              refine ev_goto (pc := 57) (tgt := 61) (by decide) dX12_match_57 ?_
              exact ev_weak (qL_s (qL_s (qL_s (qL_s (qL_s (qL_s (qL_s (qL_s (qL_s qL_nil))))))))) (e_X12_match_61 h56)
