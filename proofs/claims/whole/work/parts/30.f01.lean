theorem dJ0_isLatin1_aae02_0 : decode cJ0_isLatin1_aae02 0 = .ok (.getstatic 38, 3) := by decide +kernel
theorem dJ0_isLatin1_aae02_3 : decode cJ0_isLatin1_aae02 3 = .ok (.ifCond .eq 14, 3) := by decide +kernel
theorem dJ0_isLatin1_aae02_6 : decode cJ0_isLatin1_aae02 6 = .ok (.aload_n 0, 1) := by decide +kernel
theorem dJ0_isLatin1_aae02_7 : decode cJ0_isLatin1_aae02 7 = .ok (.getfield 15, 3) := by decide +kernel
theorem dJ0_isLatin1_aae02_10 : decode cJ0_isLatin1_aae02 10 = .ok (.ifCond .ne 7, 3) := by decide +kernel
theorem dJ0_isLatin1_aae02_13 : decode cJ0_isLatin1_aae02 13 = .ok (.iconst 1, 1) := by decide +kernel
theorem dJ0_isLatin1_aae02_14 : decode cJ0_isLatin1_aae02 14 = .ok (.goto 4, 3) := by decide +kernel
theorem dJ0_isLatin1_aae02_17 : decode cJ0_isLatin1_aae02 17 = .ok (.iconst 0, 1) := by decide +kernel
theorem dJ0_isLatin1_aae02_18 : decode cJ0_isLatin1_aae02 18 = .ok (.ireturn, 1) := by decide +kernel
theorem e_J0_isLatin1_aae02 {X : gk_X} {F : Nat} {S : gk_S} {a : Nat} {r : (Int32 × gk_S)} (h0 : f_J0_isLatin1_aae02 F S a = some r) : EvM X m_J0_isLatin1_aae02 1 0 0 [.retAddr (10 + a)] S (qRI r) := by
  unfold f_J0_isLatin1_aae02 at h0
  obtain ⟨g1, h1⟩ := qk_el h0; clear h0; rename _ => h0
  refine ev_method (by decide +kernel) rfl (by simp [gk_okv, gk_isR]; have := (ltb_el g1); omega) (Nat.le_of_ble_eq_true rfl) ?_
  show EvW X m_J0_isLatin1_aae02 1 0 0 0 [some (.retAddr (10 + a))] [] S _
  refine ev_getsC (pc := 0) gw_515 dJ0_isLatin1_aae02_0 ?_
  refine ev_if_eq (pc := 3) (tgt := 17) (by decide) dJ0_isLatin1_aae02_3 (fun c2 => absurd c2 (by decide)) (fun c2 => ?_)
  refine ev_aload_n (pc := 6) (i := 0) rfl rfl (by simp [gk_isR]; have := (ltb_el g1); omega) dJ0_isLatin1_aae02_6 ?_
  refine ev_scod (pc := 7) (i := a) (ltb_el g1) gw_1647 dJ0_isLatin1_aae02_7 ?_
  refine ev_if_ne (pc := 10) (tgt := 17) (by decide) dJ0_isLatin1_aae02_10 (fun c3 => absurd c3 (by decide)) (fun c3 => ?_)
  refine ev_iconst (pc := 13) (v := 1) (by decide) dJ0_isLatin1_aae02_13 ?_
  refine ev_goto (pc := 14) (tgt := 18) (by decide) dJ0_isLatin1_aae02_14 ?_
  exact ev_ireturn (pc := 18) rfl rfl (qRI_eq h0) dJ0_isLatin1_aae02_18
theorem dJ3_checkIndex_8e157_0 : decode cJ3_checkIndex_8e157 0 = .ok (.iload_n 0, 1) := by decide +kernel
theorem dJ3_checkIndex_8e157_1 : decode cJ3_checkIndex_8e157 1 = .ok (.ifCond .lt 8, 3) := by decide +kernel
theorem dJ3_checkIndex_8e157_4 : decode cJ3_checkIndex_8e157 4 = .ok (.iload_n 0, 1) := by decide +kernel
theorem dJ3_checkIndex_8e157_5 : decode cJ3_checkIndex_8e157 5 = .ok (.iload_n 1, 1) := by decide +kernel
theorem dJ3_checkIndex_8e157_6 : decode cJ3_checkIndex_8e157 6 = .ok (.if_icmp .lt 10, 3) := by decide +kernel
theorem dJ3_checkIndex_8e157_9 : decode cJ3_checkIndex_8e157 9 = .ok (.aload_n 2, 1) := by decide +kernel
theorem dJ3_checkIndex_8e157_10 : decode cJ3_checkIndex_8e157 10 = .ok (.iload_n 0, 1) := by decide +kernel
theorem dJ3_checkIndex_8e157_11 : decode cJ3_checkIndex_8e157 11 = .ok (.iload_n 1, 1) := by decide +kernel
theorem dJ3_checkIndex_8e157_12 : decode cJ3_checkIndex_8e157 12 = .ok (.invokestatic 95, 3) := by decide +kernel
theorem dJ3_checkIndex_8e157_15 : decode cJ3_checkIndex_8e157 15 = .ok (.athrow, 1) := by decide +kernel
theorem dJ3_checkIndex_8e157_16 : decode cJ3_checkIndex_8e157 16 = .ok (.iload_n 0, 1) := by decide +kernel
theorem dJ3_checkIndex_8e157_17 : decode cJ3_checkIndex_8e157 17 = .ok (.ireturn, 1) := by decide +kernel
theorem e_J3_checkIndex_8e157_9 {X : gk_X} {F : Nat} {l0 : Int32} {l1 : Int32} {S : gk_S} {r : (Int32 × gk_S)} (h0 : f_J3_checkIndex_8e157_9 F l0 l1 S = some r) : EvW X m_J3_checkIndex_8e157 1 0 0 9 [some (.int l0), some (.int l1), some (.retAddr 4)] [] S (qRI r) := by
  unfold f_J3_checkIndex_8e157_9 at h0
  refine ev_aload_n (pc := 9) (i := 2) rfl rfl rfl dJ3_checkIndex_8e157_9 ?_
  refine ev_iload_n (pc := 10) (i := 0) rfl rfl dJ3_checkIndex_8e157_10 ?_
  refine ev_iload_n (pc := 11) (i := 1) rfl rfl dJ3_checkIndex_8e157_11 ?_
  cases h0
theorem e_J3_checkIndex_8e157 {X : gk_X} {F : Nat} {S : gk_S} {p0 : Int32} {p1 : Int32} {r : (Int32 × gk_S)} (h0 : f_J3_checkIndex_8e157 F S p0 p1 = some r) : EvM X m_J3_checkIndex_8e157 1 0 0 [.int p0, .int p1, .retAddr 4] S (qRI r) := by
  unfold f_J3_checkIndex_8e157 at h0
  refine ev_method (by decide +kernel) rfl rfl (Nat.le_of_ble_eq_true rfl) ?_
  show EvW X m_J3_checkIndex_8e157 1 0 0 0 [some (.int p0), some (.int p1), some (.retAddr 4)] [] S _
  refine ev_iload_n (pc := 0) (i := 0) rfl rfl dJ3_checkIndex_8e157_0 ?_
  refine ev_if_lt (pc := 1) (tgt := 9) (by decide) dJ3_checkIndex_8e157_1 (fun c1 => ?_) (fun c1 => ?_)
  · replace h0 := qi_t h0 c1
    exact ev_weak (qL_s (qL_s (qL_s qL_nil))) (e_J3_checkIndex_8e157_9 h0)
  · replace h0 := qi_f h0 c1
    refine ev_iload_n (pc := 4) (i := 0) rfl rfl dJ3_checkIndex_8e157_4 ?_
    refine ev_iload_n (pc := 5) (i := 1) rfl rfl dJ3_checkIndex_8e157_5 ?_
    refine ev_ic_lt (pc := 6) (tgt := 16) (by decide) dJ3_checkIndex_8e157_6 (fun c3 => ?_) (fun c3 => ?_)
    · replace h0 := qi_t h0 c3
      refine ev_iload_n (pc := 16) (i := 0) rfl rfl dJ3_checkIndex_8e157_16 ?_
      exact ev_ireturn (pc := 17) rfl (nar_int _) (qRI_eq h0) dJ3_checkIndex_8e157_17
    · replace h0 := qi_f h0 c3
      exact ev_weak (qL_s (qL_s (qL_s qL_nil))) (e_J3_checkIndex_8e157_9 h0)
theorem dJ0_checkIndex_df160_0 : decode cJ0_checkIndex_df160 0 = .ok (.iload_n 0, 1) := by decide +kernel
theorem dJ0_checkIndex_df160_1 : decode cJ0_checkIndex_df160 1 = .ok (.iload_n 1, 1) := by decide +kernel
theorem dJ0_checkIndex_df160_2 : decode cJ0_checkIndex_df160 2 = .ok (.getstatic 1053, 3) := by decide +kernel
theorem dJ0_checkIndex_df160_5 : decode cJ0_checkIndex_df160 5 = .ok (.invokestatic 1059, 3) := by decide +kernel
theorem dJ0_checkIndex_df160_8 : decode cJ0_checkIndex_df160 8 = .ok (.pop, 1) := by decide +kernel
theorem dJ0_checkIndex_df160_9 : decode cJ0_checkIndex_df160 9 = .ok (.return_, 1) := by decide +kernel
theorem e_J0_checkIndex_df160 {X : gk_X} {F : Nat} {S : gk_S} {p0 : Int32} {p1 : Int32} {r : (Unit × gk_S)} (h0 : f_J0_checkIndex_df160 F S p0 p1 = some r) : EvM X m_J0_checkIndex_df160 2 0 0 [.int p0, .int p1] S (qRU r) := by
  unfold f_J0_checkIndex_df160 at h0
  refine ev_method (by decide +kernel) rfl rfl (Nat.le_of_ble_eq_true rfl) ?_
  show EvW X m_J0_checkIndex_df160 2 0 0 0 [some (.int p0), some (.int p1)] [] S _
  refine ev_iload_n (pc := 0) (i := 0) rfl rfl dJ0_checkIndex_df160_0 ?_
  refine ev_iload_n (pc := 1) (i := 1) rfl rfl dJ0_checkIndex_df160_1 ?_
  refine ev_getsF (pc := 2) gw_531 dJ0_checkIndex_df160_2 ?_
  obtain ⟨x1, S2, e3, h4⟩ := qc_el h0; clear h0
  refine xv_callS (pc := 5) (st := []) (as := [.int p0, .int p1, .retAddr 4]) (v := (some (.int x1))) (S' := S2) ok_J3_checkIndex_8e157 (e_J3_checkIndex_8e157 e3) (by decide) rfl (Nat.le_of_ble_eq_true rfl) rfl gw_533 dJ0_checkIndex_df160_5 ?_
  refine ev_pop (pc := 8) (.inl ⟨_, rfl⟩) dJ0_checkIndex_df160_8 ?_
  exact ev_return (pc := 9) rfl (qRU_eq h4) dJ0_checkIndex_df160_9
theorem dJ1_charAt_3b067_0 : decode cJ1_charAt_3b067 0 = .ok (.iload_n 1, 1) := by decide +kernel
theorem dJ1_charAt_3b067_1 : decode cJ1_charAt_3b067 1 = .ok (.aload_n 0, 1) := by decide +kernel
theorem dJ1_charAt_3b067_2 : decode cJ1_charAt_3b067 2 = .ok (.arraylength, 1) := by decide +kernel
theorem dJ1_charAt_3b067_3 : decode cJ1_charAt_3b067 3 = .ok (.invokestatic 9, 3) := by decide +kernel
theorem dJ1_charAt_3b067_6 : decode cJ1_charAt_3b067 6 = .ok (.aload_n 0, 1) := by decide +kernel
theorem dJ1_charAt_3b067_7 : decode cJ1_charAt_3b067 7 = .ok (.iload_n 1, 1) := by decide +kernel
theorem dJ1_charAt_3b067_8 : decode cJ1_charAt_3b067 8 = .ok (.baload, 1) := by decide +kernel
theorem dJ1_charAt_3b067_9 : decode cJ1_charAt_3b067 9 = .ok (.sipush 255, 3) := by decide +kernel
theorem dJ1_charAt_3b067_12 : decode cJ1_charAt_3b067 12 = .ok (.iand, 1) := by decide +kernel
theorem dJ1_charAt_3b067_13 : decode cJ1_charAt_3b067 13 = .ok (.i2c, 1) := by decide +kernel
theorem dJ1_charAt_3b067_14 : decode cJ1_charAt_3b067 14 = .ok (.ireturn, 1) := by decide +kernel
theorem e_J1_charAt_3b067 {X : gk_X} {F : Nat} {S : gk_S} {p0 : Nat} {p1 : Int32} {r : (Int32 × gk_S)} (h0 : f_J1_charAt_3b067 F S p0 p1 = some r) : EvM X m_J1_charAt_3b067 3 0 0 [.retAddr (60 + p0), .int p1] S (qRI r) := by
  unfold f_J1_charAt_3b067 at h0
  obtain ⟨g1, h1⟩ := qk_el h0; clear h0; rename _ => h0
  refine ev_method (by decide +kernel) rfl (by simp [gk_okv, gk_isR]; have := (ltb_el g1); omega) (Nat.le_of_ble_eq_true rfl) ?_
  show EvW X m_J1_charAt_3b067 3 0 0 0 [some (.retAddr (60 + p0)), some (.int p1)] [] S _
  refine ev_iload_n (pc := 0) (i := 1) rfl rfl dJ1_charAt_3b067_0 ?_
  refine ev_aload_n (pc := 1) (i := 0) rfl rfl (by simp [gk_isR]; have := (ltb_el g1); omega) dJ1_charAt_3b067_1 ?_
  refine ev_sbln (pc := 2) (i := p0) (ltb_el g1) dJ1_charAt_3b067_2 ?_
  obtain ⟨x2, S3, e4, h5⟩ := qc_el h0; clear h0
  refine xv_callS (pc := 3) (st := []) (as := [.int p1, .int (Int32.ofNat (gk_s p0).2.2.2.length)]) (v := none) (S' := S3) ok_J0_checkIndex_df160 (e_J0_checkIndex_df160 e4) (by decide) rfl (Nat.le_of_ble_eq_true rfl) rfl gw_528 dJ1_charAt_3b067_3 ?_
  refine ev_aload_n (pc := 6) (i := 0) rfl rfl (by simp [gk_isR]; have := (ltb_el g1); omega) dJ1_charAt_3b067_6 ?_
  refine ev_iload_n (pc := 7) (i := 1) rfl rfl dJ1_charAt_3b067_7 ?_
  obtain ⟨g6, h7⟩ := qk_el h5; clear h5
  refine ev_sbal (pc := 8) (i := p0) (ltb_el g1) (inb_el g6) dJ1_charAt_3b067_8 ?_
  refine ev_sipush (pc := 9) (v := 255) (by decide) dJ1_charAt_3b067_9 ?_
  refine ev_iand (pc := 12)  dJ1_charAt_3b067_12 ?_
  refine ev_i2c (pc := 13)  dJ1_charAt_3b067_13 ?_
  obtain ⟨x8, e9, h10⟩ := qv_el h7; clear h7
  refine xv_top e9 ?_
  obtain ⟨g11, h12⟩ := qk_el h10; clear h10
  exact ev_ireturn (pc := 14) rfl (chb_nar g11) (qRI_eq h12) dJ1_charAt_3b067_14
theorem dJ0_charAt_5068e_0 : decode cJ0_charAt_5068e 0 = .ok (.aload_n 0, 1) := by decide +kernel
theorem dJ0_charAt_5068e_1 : decode cJ0_charAt_5068e 1 = .ok (.invokevirtual 492, 3) := by decide +kernel
theorem dJ0_charAt_5068e_4 : decode cJ0_charAt_5068e 4 = .ok (.ifCond .eq 12, 3) := by decide +kernel
theorem dJ0_charAt_5068e_7 : decode cJ0_charAt_5068e 7 = .ok (.aload_n 0, 1) := by decide +kernel
theorem dJ0_charAt_5068e_8 : decode cJ0_charAt_5068e 8 = .ok (.getfield 9, 3) := by decide +kernel
theorem dJ0_charAt_5068e_11 : decode cJ0_charAt_5068e 11 = .ok (.iload_n 1, 1) := by decide +kernel
theorem dJ0_charAt_5068e_12 : decode cJ0_charAt_5068e 12 = .ok (.invokestatic 495, 3) := by decide +kernel
theorem dJ0_charAt_5068e_15 : decode cJ0_charAt_5068e 15 = .ok (.ireturn, 1) := by decide +kernel
theorem dJ0_charAt_5068e_16 : decode cJ0_charAt_5068e 16 = .ok (.aload_n 0, 1) := by decide +kernel
theorem dJ0_charAt_5068e_17 : decode cJ0_charAt_5068e 17 = .ok (.getfield 9, 3) := by decide +kernel
theorem dJ0_charAt_5068e_20 : decode cJ0_charAt_5068e 20 = .ok (.iload_n 1, 1) := by decide +kernel
theorem dJ0_charAt_5068e_21 : decode cJ0_charAt_5068e 21 = .ok (.invokestatic 498, 3) := by decide +kernel
theorem dJ0_charAt_5068e_24 : decode cJ0_charAt_5068e 24 = .ok (.ireturn, 1) := by decide +kernel
theorem e_J0_charAt_5068e {X : gk_X} {F : Nat} {S : gk_S} {a : Nat} {p0 : Int32} {r : (Int32 × gk_S)} (h0 : f_J0_charAt_5068e F S a p0 = some r) : EvM X m_J0_charAt_5068e 4 0 0 [.retAddr (10 + a), .int p0] S (qRI r) := by
  unfold f_J0_charAt_5068e at h0
  obtain ⟨g1, h1⟩ := qk_el h0; clear h0; rename _ => h0
  refine ev_method (by decide +kernel) rfl (by simp [gk_okv, gk_isR]; have := (ltb_el g1); omega) (Nat.le_of_ble_eq_true rfl) ?_
  show EvW X m_J0_charAt_5068e 4 0 0 0 [some (.retAddr (10 + a)), some (.int p0)] [] S _
  refine ev_aload_n (pc := 0) (i := 0) rfl rfl (by simp [gk_isR]; have := (ltb_el g1); omega) dJ0_charAt_5068e_0 ?_
  obtain ⟨x2, S3, e4, h5⟩ := qc_el h0; clear h0
  refine xv_callT (pc := 1) (st := []) (as := []) (v := (some (.int x2))) (S' := S3) (i9 := a) ok_J0_isLatin1_aae02 (e_J0_isLatin1_aae02 e4) (ltb_el g1) (by decide) rfl (Nat.le_of_ble_eq_true rfl) rfl gw_521 dJ0_charAt_5068e_1 ?_
  refine ev_if_eq (pc := 4) (tgt := 16) (by decide) dJ0_charAt_5068e_4 (fun c6 => ?_) (fun c6 => ?_)
  · replace h5 := qi_t h5 c6
    refine ev_aload_n (pc := 16) (i := 0) rfl rfl (by simp [gk_isR]; have := (ltb_el g1); omega) dJ0_charAt_5068e_16 ?_
    refine ev_sval (pc := 17) (i := a) (ltb_el g1) gw_1646 dJ0_charAt_5068e_17 ?_
    refine ev_iload_n (pc := 20) (i := 1) rfl rfl dJ0_charAt_5068e_20 ?_
    cases h5
  · replace h5 := qi_f h5 c6
    refine ev_aload_n (pc := 7) (i := 0) rfl rfl (by simp [gk_isR]; have := (ltb_el g1); omega) dJ0_charAt_5068e_7 ?_
    refine ev_sval (pc := 8) (i := a) (ltb_el g1) gw_1646 dJ0_charAt_5068e_8 ?_
    refine ev_iload_n (pc := 11) (i := 1) rfl rfl dJ0_charAt_5068e_11 ?_
    obtain ⟨x8, S9, e10, h11⟩ := qc_el h5; clear h5
    refine xv_callS (pc := 12) (st := []) (as := [.retAddr (60 + a), .int p0]) (v := (some (.int x8))) (S' := S9) ok_J1_charAt_3b067 (e_J1_charAt_3b067 e10) (by decide) rfl (Nat.le_of_ble_eq_true rfl) rfl gw_525 dJ0_charAt_5068e_12 ?_
    obtain ⟨g12, h13⟩ := qk_el h11; clear h11
    exact ev_ireturn (pc := 15) rfl (chb_nar g12) (qRI_eq h13) dJ0_charAt_5068e_15
theorem dJ0_coder_7d493_0 : decode cJ0_coder_7d493 0 = .ok (.getstatic 38, 3) := by decide +kernel
theorem dJ0_coder_7d493_3 : decode cJ0_coder_7d493 3 = .ok (.ifCond .eq 10, 3) := by decide +kernel
theorem dJ0_coder_7d493_6 : decode cJ0_coder_7d493 6 = .ok (.aload_n 0, 1) := by decide +kernel
theorem dJ0_coder_7d493_7 : decode cJ0_coder_7d493 7 = .ok (.getfield 15, 3) := by decide +kernel
theorem dJ0_coder_7d493_10 : decode cJ0_coder_7d493 10 = .ok (.goto 4, 3) := by decide +kernel
theorem dJ0_coder_7d493_13 : decode cJ0_coder_7d493 13 = .ok (.iconst 1, 1) := by decide +kernel
theorem dJ0_coder_7d493_14 : decode cJ0_coder_7d493 14 = .ok (.ireturn, 1) := by decide +kernel
theorem e_J0_coder_7d493 {X : gk_X} {F : Nat} {S : gk_S} {a : Nat} {r : (Int32 × gk_S)} (h0 : f_J0_coder_7d493 F S a = some r) : EvM X m_J0_coder_7d493 1 0 0 [.retAddr (10 + a)] S (qRI r) := by
  unfold f_J0_coder_7d493 at h0
  obtain ⟨g1, h1⟩ := qk_el h0; clear h0; rename _ => h0
  refine ev_method (by decide +kernel) rfl (by simp [gk_okv, gk_isR]; have := (ltb_el g1); omega) (Nat.le_of_ble_eq_true rfl) ?_
  show EvW X m_J0_coder_7d493 1 0 0 0 [some (.retAddr (10 + a))] [] S _
  refine ev_getsC (pc := 0) gw_515 dJ0_coder_7d493_0 ?_
  refine ev_if_eq (pc := 3) (tgt := 13) (by decide) dJ0_coder_7d493_3 (fun c2 => absurd c2 (by decide)) (fun c2 => ?_)
  refine ev_aload_n (pc := 6) (i := 0) rfl rfl (by simp [gk_isR]; have := (ltb_el g1); omega) dJ0_coder_7d493_6 ?_
  refine ev_scod (pc := 7) (i := a) (ltb_el g1) gw_1647 dJ0_coder_7d493_7 ?_
  refine ev_goto (pc := 10) (tgt := 14) (by decide) dJ0_coder_7d493_10 ?_
  exact ev_ireturn (pc := 14) rfl rfl (qRI_eq h0) dJ0_coder_7d493_14
theorem dJ0_length_8abf5_0 : decode cJ0_length_8abf5 0 = .ok (.aload_n 0, 1) := by decide +kernel
theorem dJ0_length_8abf5_1 : decode cJ0_length_8abf5 1 = .ok (.getfield 9, 3) := by decide +kernel
theorem dJ0_length_8abf5_4 : decode cJ0_length_8abf5 4 = .ok (.arraylength, 1) := by decide +kernel
theorem dJ0_length_8abf5_5 : decode cJ0_length_8abf5 5 = .ok (.aload_n 0, 1) := by decide +kernel
theorem dJ0_length_8abf5_6 : decode cJ0_length_8abf5 6 = .ok (.invokevirtual 335, 3) := by decide +kernel
theorem dJ0_length_8abf5_9 : decode cJ0_length_8abf5 9 = .ok (.ishr, 1) := by decide +kernel
theorem dJ0_length_8abf5_10 : decode cJ0_length_8abf5 10 = .ok (.ireturn, 1) := by decide +kernel
theorem e_J0_length_8abf5 {X : gk_X} {F : Nat} {S : gk_S} {a : Nat} {r : (Int32 × gk_S)} (h0 : f_J0_length_8abf5 F S a = some r) : EvM X m_J0_length_8abf5 2 0 0 [.retAddr (10 + a)] S (qRI r) := by
  unfold f_J0_length_8abf5 at h0
  obtain ⟨g1, h1⟩ := qk_el h0; clear h0; rename _ => h0
  refine ev_method (by decide +kernel) rfl (by simp [gk_okv, gk_isR]; have := (ltb_el g1); omega) (Nat.le_of_ble_eq_true rfl) ?_
  show EvW X m_J0_length_8abf5 2 0 0 0 [some (.retAddr (10 + a))] [] S _
  refine ev_aload_n (pc := 0) (i := 0) rfl rfl (by simp [gk_isR]; have := (ltb_el g1); omega) dJ0_length_8abf5_0 ?_
  refine ev_sval (pc := 1) (i := a) (ltb_el g1) gw_1646 dJ0_length_8abf5_1 ?_
  refine ev_sbln (pc := 4) (i := a) (ltb_el g1) dJ0_length_8abf5_4 ?_
  refine ev_aload_n (pc := 5) (i := 0) rfl rfl (by simp [gk_isR]; have := (ltb_el g1); omega) dJ0_length_8abf5_5 ?_
  obtain ⟨x2, S3, e4, h5⟩ := qc_el h0; clear h0
  refine xv_callT (pc := 6) (st := [.int (Int32.ofNat (gk_s a).2.2.2.length)]) (as := []) (v := (some (.int x2))) (S' := S3) (i9 := a) ok_J0_coder_7d493 (e_J0_coder_7d493 e4) (ltb_el g1) (by decide) rfl (Nat.le_of_ble_eq_true rfl) rfl gw_511 dJ0_length_8abf5_6 ?_
  refine ev_ishr (pc := 9)  dJ0_length_8abf5_9 ?_
  obtain ⟨x6, e7, h8⟩ := qv_el h5; clear h5
  refine xv_top e7 ?_
  exact ev_ireturn (pc := 10) rfl (nar_int _) (qRI_eq h8) dJ0_length_8abf5_10
theorem dX11_checkList_0 : decode cX11_checkList 0 = .ok (.iload_n 0, 1) := by decide +kernel
theorem dX11_checkList_1 : decode cX11_checkList 1 = .ok (.ifCond .lt 8, 3) := by decide +kernel
theorem dX11_checkList_4 : decode cX11_checkList 4 = .ok (.iload_n 0, 1) := by decide +kernel
theorem dX11_checkList_5 : decode cX11_checkList 5 = .ok (.iconst 4, 1) := by decide +kernel
theorem dX11_checkList_6 : decode cX11_checkList 6 = .ok (.if_icmp .lt 13, 3) := by decide +kernel
theorem dX11_checkList_9 : decode cX11_checkList 9 = .ok (.new 249, 3) := by decide +kernel
theorem dX11_checkList_12 : decode cX11_checkList 12 = .ok (.dup, 1) := by decide +kernel
theorem dX11_checkList_13 : decode cX11_checkList 13 = .ok (.ldc 251, 2) := by decide +kernel
theorem dX11_checkList_15 : decode cX11_checkList 15 = .ok (.invokespecial 253, 3) := by decide +kernel
theorem dX11_checkList_18 : decode cX11_checkList 18 = .ok (.athrow, 1) := by decide +kernel
theorem dX11_checkList_19 : decode cX11_checkList 19 = .ok (.return_, 1) := by decide +kernel
theorem e_X11_checkList_9 {X : gk_X} {F : Nat} {k j : Nat}  {S : gk_S} {r : ((Unit ⊕ String) × gk_S)} (hb : qb r k j) (h0 : f_X11_checkList_9 F  S = some r) : EvW X m_X11_checkList 6 k j 9 [none] [] S (qXU r) := by
  unfold f_X11_checkList_9 at h0
  cases h0
  exact ev_throwS (pc := 9) (i := 0) (by decide) rfl rfl rfl rfl gx_okI (by decide +kernel) gw_389 gw_18 rfl (by decide) (by decide) (qb_inr hb).1 (qb_inr hb).2 rfl dX11_checkList_9 dX11_checkList_12 dX11_checkList_13 dX11_checkList_15 dX11_checkList_18
theorem e_X11_checkList {X : gk_X} {F : Nat} {k j : Nat} {S : gk_S} {p0 : Int32} {r : ((Unit ⊕ String) × gk_S)} (hb : qb r k j) (h0 : f_X11_checkList F S p0 = some r) : EvM X m_X11_checkList 6 k j [.int p0] S (qXU r) := by
  unfold f_X11_checkList at h0
  refine ev_method (by decide +kernel) rfl rfl (Nat.le_of_ble_eq_true rfl) ?_
  show EvW X m_X11_checkList 6 k j 0 [some (.int p0)] [] S _
  refine ev_iload_n (pc := 0) (i := 0) rfl rfl dX11_checkList_0 ?_
  refine ev_if_lt (pc := 1) (tgt := 9) (by decide) dX11_checkList_1 (fun c1 => ?_) (fun c1 => ?_)
  · replace h0 := qi_t h0 c1
    exact ev_weak (qL_n qL_nil) (e_X11_checkList_9 hb h0)
  · replace h0 := qi_f h0 c1
    refine ev_iload_n (pc := 4) (i := 0) rfl rfl dX11_checkList_4 ?_
    refine ev_iconst (pc := 5) (v := 4) (by decide) dX11_checkList_5 ?_
    refine ev_ic_lt (pc := 6) (tgt := 19) (by decide) dX11_checkList_6 (fun c3 => ?_) (fun c3 => ?_)
    · replace h0 := qi_t h0 c3
      cases h0
      exact ev_return (pc := 19) rfl rfl dX11_checkList_19
    · replace h0 := qi_f h0 c3
      exact ev_weak (qL_n qL_nil) (e_X11_checkList_9 hb h0)
theorem dX6_at_0 : decode cX6_at 0 = .ok (.aload_n 0, 1) := by decide +kernel
theorem dX6_at_1 : decode cX6_at 1 = .ok (.getfield 11, 3) := by decide +kernel
theorem dX6_at_4 : decode cX6_at 4 = .ok (.iload_n 1, 1) := by decide +kernel
theorem dX6_at_5 : decode cX6_at 5 = .ok (.ifCond .lt 13, 3) := by decide +kernel
theorem dX6_at_8 : decode cX6_at 8 = .ok (.iload_n 1, 1) := by decide +kernel
theorem dX6_at_9 : decode cX6_at 9 = .ok (.bipush 16, 2) := by decide +kernel
theorem dX6_at_11 : decode cX6_at 11 = .ok (.if_icmp .ge 7, 3) := by decide +kernel
theorem dX6_at_14 : decode cX6_at 14 = .ok (.iload_n 1, 1) := by decide +kernel
theorem dX6_at_15 : decode cX6_at 15 = .ok (.goto 4, 3) := by decide +kernel
theorem dX6_at_18 : decode cX6_at 18 = .ok (.iconst 0, 1) := by decide +kernel
theorem dX6_at_19 : decode cX6_at 19 = .ok (.aaload, 1) := by decide +kernel
theorem dX6_at_20 : decode cX6_at 20 = .ok (.areturn, 1) := by decide +kernel
theorem e_X6_at {X : gk_X} {F : Nat} {S : gk_S} {a : Nat} {p0 : Int32} {r : (Nat × gk_S)} (h0 : f_X6_at F S a p0 = some r) : EvM X m_X6_at 1 0 0 [.ref a, .int p0] S (qRP r) := by
  unfold f_X6_at at h0
  refine ev_method (by decide +kernel) rfl rfl (Nat.le_of_ble_eq_true rfl) ?_
  show EvW X m_X6_at 1 0 0 0 [some (.ref a), some (.int p0)] [] S _
  refine ev_aload_n (pc := 0) (i := 0) rfl rfl rfl dX6_at_0 ?_
  obtain ⟨g1, h2⟩ := qk_el h0; clear h0
  obtain ⟨b3, e4, h5⟩ := qP_el h2; clear h2
  refine xv_getP (pc := 1) fn_400 (isb_el g1) e4 gw_90 dX6_at_1 ?_
  refine ev_iload_n (pc := 4) (i := 1) rfl rfl dX6_at_4 ?_
  refine ev_if_lt (pc := 5) (tgt := 18) (by decide) dX6_at_5 (fun c6 => ?_) (fun c6 => ?_)
  · replace h5 := qi_t h5 c6
    refine ev_iconst (pc := 18) (v := 0) (by decide) dX6_at_18 ?_
    obtain ⟨g8, h9⟩ := qk_el h5; clear h5
    obtain ⟨g10, h11⟩ := qk_el h9; clear h9
    obtain ⟨b12, e13, h14⟩ := qP_el h11; clear h11
    refine yv_aald (pc := 19) (isb_el g8) (by decide) (inb_el g10) e13 dX6_at_19 ?_
    exact ev_areturn (pc := 20) rfl (by first | exact .inl ⟨_, rfl⟩ | exact .inr ⟨_, rfl⟩) rfl (qRP_eq h14) dX6_at_20
  · replace h5 := qi_f h5 c6
    refine ev_iload_n (pc := 8) (i := 1) rfl rfl dX6_at_8 ?_
    refine ev_bipush (pc := 9) (v := 16) (by decide) dX6_at_9 ?_
    refine ev_ic_ge (pc := 11) (tgt := 18) (by decide) dX6_at_11 (fun c15 => ?_) (fun c15 => ?_)
    · replace h5 := qi_t h5 c15
      refine ev_iconst (pc := 18) (v := 0) (by decide) dX6_at_18 ?_
      obtain ⟨g17, h18⟩ := qk_el h5; clear h5
      obtain ⟨g19, h20⟩ := qk_el h18; clear h18
      obtain ⟨b21, e22, h23⟩ := qP_el h20; clear h20
      refine yv_aald (pc := 19) (isb_el g17) (by decide) (inb_el g19) e22 dX6_at_19 ?_
      exact ev_areturn (pc := 20) rfl (by first | exact .inl ⟨_, rfl⟩ | exact .inr ⟨_, rfl⟩) rfl (qRP_eq h23) dX6_at_20
    · replace h5 := qi_f h5 c15
      refine ev_iload_n (pc := 14) (i := 1) rfl rfl dX6_at_14 ?_
      refine ev_goto (pc := 15) (tgt := 19) (by decide) dX6_at_15 ?_
      obtain ⟨g24, h25⟩ := qk_el h5; clear h5
      obtain ⟨g26, h27⟩ := qk_el h25; clear h25
      obtain ⟨b28, e29, h30⟩ := qP_el h27; clear h27
      refine yv_aald (pc := 19) (isb_el g24) (by decide) (inb_el g26) e29 dX6_at_19 ?_
      exact ev_areturn (pc := 20) rfl (by first | exact .inl ⟨_, rfl⟩ | exact .inr ⟨_, rfl⟩) rfl (qRP_eq h30) dX6_at_20
theorem dX7_addCut_0 : decode cX7_addCut 0 = .ok (.iload_n 1, 1) := by decide +kernel
theorem dX7_addCut_1 : decode cX7_addCut 1 = .ok (.ifCond .lt 30, 3) := by decide +kernel
theorem dX7_addCut_4 : decode cX7_addCut 4 = .ok (.iload_n 1, 1) := by decide +kernel
theorem dX7_addCut_5 : decode cX7_addCut 5 = .ok (.bipush 7, 2) := by decide +kernel
theorem dX7_addCut_7 : decode cX7_addCut 7 = .ok (.if_icmp .ge 24, 3) := by decide +kernel
theorem dX7_addCut_10 : decode cX7_addCut 10 = .ok (.lload_n 2, 1) := by decide +kernel
theorem dX7_addCut_11 : decode cX7_addCut 11 = .ok (.getstatic 105, 3) := by decide +kernel
theorem dX7_addCut_14 : decode cX7_addCut 14 = .ok (.iload_n 1, 1) := by decide +kernel
theorem dX7_addCut_15 : decode cX7_addCut 15 = .ok (.laload, 1) := by decide +kernel
theorem dX7_addCut_16 : decode cX7_addCut 16 = .ok (.lcmp, 1) := by decide +kernel
theorem dX7_addCut_17 : decode cX7_addCut 17 = .ok (.ifCond .gt 14, 3) := by decide +kernel
theorem dX7_addCut_20 : decode cX7_addCut 20 = .ok (.aload_n 0, 1) := by decide +kernel
theorem dX7_addCut_21 : decode cX7_addCut 21 = .ok (.getfield 25, 3) := by decide +kernel
theorem dX7_addCut_24 : decode cX7_addCut 24 = .ok (.iload_n 1, 1) := by decide +kernel
theorem dX7_addCut_25 : decode cX7_addCut 25 = .ok (.iaload, 1) := by decide +kernel
theorem dX7_addCut_26 : decode cX7_addCut 26 = .ok (.bipush 65, 2) := by decide +kernel
theorem dX7_addCut_28 : decode cX7_addCut 28 = .ok (.if_icmp .lt 4, 3) := by decide +kernel
theorem dX7_addCut_31 : decode cX7_addCut 31 = .ok (.return_, 1) := by decide +kernel
theorem dX7_addCut_32 : decode cX7_addCut 32 = .ok (.aload_n 0, 1) := by decide +kernel
theorem dX7_addCut_33 : decode cX7_addCut 33 = .ok (.getfield 25, 3) := by decide +kernel
theorem dX7_addCut_36 : decode cX7_addCut 36 = .ok (.iload_n 1, 1) := by decide +kernel
theorem dX7_addCut_37 : decode cX7_addCut 37 = .ok (.iaload, 1) := by decide +kernel
theorem dX7_addCut_38 : decode cX7_addCut 38 = .ok (.istore 4, 2) := by decide +kernel
theorem dX7_addCut_40 : decode cX7_addCut 40 = .ok (.iload 4, 2) := by decide +kernel
theorem dX7_addCut_42 : decode cX7_addCut 42 = .ok (.ifCond .le 25, 3) := by decide +kernel
theorem dX7_addCut_45 : decode cX7_addCut 45 = .ok (.aload_n 0, 1) := by decide +kernel
theorem dX7_addCut_46 : decode cX7_addCut 46 = .ok (.getfield 17, 3) := by decide +kernel
theorem dX7_addCut_49 : decode cX7_addCut 49 = .ok (.iload_n 1, 1) := by decide +kernel
theorem dX7_addCut_50 : decode cX7_addCut 50 = .ok (.aaload, 1) := by decide +kernel
theorem dX7_addCut_51 : decode cX7_addCut 51 = .ok (.iload 4, 2) := by decide +kernel
theorem dX7_addCut_53 : decode cX7_addCut 53 = .ok (.iconst 1, 1) := by decide +kernel
theorem dX7_addCut_54 : decode cX7_addCut 54 = .ok (.isub, 1) := by decide +kernel
theorem dX7_addCut_55 : decode cX7_addCut 55 = .ok (.laload, 1) := by decide +kernel
theorem dX7_addCut_56 : decode cX7_addCut 56 = .ok (.lload_n 2, 1) := by decide +kernel
theorem dX7_addCut_57 : decode cX7_addCut 57 = .ok (.lcmp, 1) := by decide +kernel
theorem dX7_addCut_58 : decode cX7_addCut 58 = .ok (.ifCond .lt 9, 3) := by decide +kernel
theorem dX7_addCut_61 : decode cX7_addCut 61 = .ok (.iinc 4 (-1), 3) := by decide +kernel
theorem dX7_addCut_64 : decode cX7_addCut 64 = .ok (.goto (-24), 3) := by decide +kernel
theorem dX7_addCut_67 : decode cX7_addCut 67 = .ok (.iload 4, 2) := by decide +kernel
theorem dX7_addCut_69 : decode cX7_addCut 69 = .ok (.aload_n 0, 1) := by decide +kernel
theorem dX7_addCut_70 : decode cX7_addCut 70 = .ok (.getfield 25, 3) := by decide +kernel
theorem dX7_addCut_73 : decode cX7_addCut 73 = .ok (.iload_n 1, 1) := by decide +kernel
theorem dX7_addCut_74 : decode cX7_addCut 74 = .ok (.iaload, 1) := by decide +kernel
theorem dX7_addCut_75 : decode cX7_addCut 75 = .ok (.if_icmp .ge 18, 3) := by decide +kernel
theorem dX7_addCut_78 : decode cX7_addCut 78 = .ok (.aload_n 0, 1) := by decide +kernel
theorem dX7_addCut_79 : decode cX7_addCut 79 = .ok (.getfield 17, 3) := by decide +kernel
theorem dX7_addCut_82 : decode cX7_addCut 82 = .ok (.iload_n 1, 1) := by decide +kernel
theorem dX7_addCut_83 : decode cX7_addCut 83 = .ok (.aaload, 1) := by decide +kernel
theorem dX7_addCut_84 : decode cX7_addCut 84 = .ok (.iload 4, 2) := by decide +kernel
theorem dX7_addCut_86 : decode cX7_addCut 86 = .ok (.laload, 1) := by decide +kernel
theorem dX7_addCut_87 : decode cX7_addCut 87 = .ok (.lload_n 2, 1) := by decide +kernel
theorem dX7_addCut_88 : decode cX7_addCut 88 = .ok (.lcmp, 1) := by decide +kernel
theorem dX7_addCut_89 : decode cX7_addCut 89 = .ok (.ifCond .ne 4, 3) := by decide +kernel
theorem dX7_addCut_92 : decode cX7_addCut 92 = .ok (.return_, 1) := by decide +kernel
theorem dX7_addCut_93 : decode cX7_addCut 93 = .ok (.aload_n 0, 1) := by decide +kernel
theorem dX7_addCut_94 : decode cX7_addCut 94 = .ok (.getfield 25, 3) := by decide +kernel
theorem dX7_addCut_97 : decode cX7_addCut 97 = .ok (.iload_n 1, 1) := by decide +kernel
theorem dX7_addCut_98 : decode cX7_addCut 98 = .ok (.iaload, 1) := by decide +kernel
theorem dX7_addCut_99 : decode cX7_addCut 99 = .ok (.istore 5, 2) := by decide +kernel
theorem dX7_addCut_101 : decode cX7_addCut 101 = .ok (.iload 5, 2) := by decide +kernel
theorem dX7_addCut_103 : decode cX7_addCut 103 = .ok (.iload 4, 2) := by decide +kernel
theorem dX7_addCut_105 : decode cX7_addCut 105 = .ok (.if_icmp .le 29, 3) := by decide +kernel
theorem dX7_addCut_108 : decode cX7_addCut 108 = .ok (.aload_n 0, 1) := by decide +kernel
theorem dX7_addCut_109 : decode cX7_addCut 109 = .ok (.getfield 17, 3) := by decide +kernel
theorem dX7_addCut_112 : decode cX7_addCut 112 = .ok (.iload_n 1, 1) := by decide +kernel
theorem dX7_addCut_113 : decode cX7_addCut 113 = .ok (.aaload, 1) := by decide +kernel
theorem dX7_addCut_114 : decode cX7_addCut 114 = .ok (.iload 5, 2) := by decide +kernel
theorem dX7_addCut_116 : decode cX7_addCut 116 = .ok (.aload_n 0, 1) := by decide +kernel
theorem dX7_addCut_117 : decode cX7_addCut 117 = .ok (.getfield 17, 3) := by decide +kernel
theorem dX7_addCut_120 : decode cX7_addCut 120 = .ok (.iload_n 1, 1) := by decide +kernel
theorem dX7_addCut_121 : decode cX7_addCut 121 = .ok (.aaload, 1) := by decide +kernel
theorem dX7_addCut_122 : decode cX7_addCut 122 = .ok (.iload 5, 2) := by decide +kernel
theorem dX7_addCut_124 : decode cX7_addCut 124 = .ok (.iconst 1, 1) := by decide +kernel
theorem dX7_addCut_125 : decode cX7_addCut 125 = .ok (.isub, 1) := by decide +kernel
theorem dX7_addCut_126 : decode cX7_addCut 126 = .ok (.laload, 1) := by decide +kernel
theorem dX7_addCut_127 : decode cX7_addCut 127 = .ok (.lastore, 1) := by decide +kernel
theorem dX7_addCut_128 : decode cX7_addCut 128 = .ok (.iinc 5 (-1), 3) := by decide +kernel
theorem dX7_addCut_131 : decode cX7_addCut 131 = .ok (.goto (-30), 3) := by decide +kernel
theorem dX7_addCut_134 : decode cX7_addCut 134 = .ok (.aload_n 0, 1) := by decide +kernel
theorem dX7_addCut_135 : decode cX7_addCut 135 = .ok (.getfield 17, 3) := by decide +kernel
theorem dX7_addCut_138 : decode cX7_addCut 138 = .ok (.iload_n 1, 1) := by decide +kernel
theorem dX7_addCut_139 : decode cX7_addCut 139 = .ok (.aaload, 1) := by decide +kernel
theorem dX7_addCut_140 : decode cX7_addCut 140 = .ok (.iload 4, 2) := by decide +kernel
theorem dX7_addCut_142 : decode cX7_addCut 142 = .ok (.lload_n 2, 1) := by decide +kernel
theorem dX7_addCut_143 : decode cX7_addCut 143 = .ok (.lastore, 1) := by decide +kernel
theorem dX7_addCut_144 : decode cX7_addCut 144 = .ok (.aload_n 0, 1) := by decide +kernel
theorem dX7_addCut_145 : decode cX7_addCut 145 = .ok (.getfield 25, 3) := by decide +kernel
theorem dX7_addCut_148 : decode cX7_addCut 148 = .ok (.iload_n 1, 1) := by decide +kernel
theorem dX7_addCut_149 : decode cX7_addCut 149 = .ok (.dup2, 1) := by decide +kernel
theorem dX7_addCut_150 : decode cX7_addCut 150 = .ok (.iaload, 1) := by decide +kernel
theorem dX7_addCut_151 : decode cX7_addCut 151 = .ok (.iconst 1, 1) := by decide +kernel
theorem dX7_addCut_152 : decode cX7_addCut 152 = .ok (.iadd, 1) := by decide +kernel
theorem dX7_addCut_153 : decode cX7_addCut 153 = .ok (.iastore, 1) := by decide +kernel
theorem dX7_addCut_154 : decode cX7_addCut 154 = .ok (.return_, 1) := by decide +kernel
theorem e_X7_addCut_101 {X : gk_X} {F : Nat} : ∀ (n : Nat) (l0 : Nat) (l1 : Int32) (l2 : Int64) (l4 : Int32) (l5 : Int32) (S : gk_S) (r : (Unit × gk_S)), f_X7_addCut_101 F n l0 l1 l2 l4 l5 S = some r → EvW X m_X7_addCut 1 0 0 101 [some (.ref l0), some (.int l1), some (.long l2), none, some (.int l4), some (.int l5)] [] S (qRU r) := by
  intro n
  induction n with
  | zero => intro l0 l1 l2 l4 l5 S r h0; rw [f_X7_addCut_101] at h0; cases h0
  | succ n ih =>
    intro l0 l1 l2 l4 l5 S r h0; rw [f_X7_addCut_101] at h0
    refine ev_iload (pc := 101) (i := 5) rfl dX7_addCut_101 ?_
    refine ev_iload (pc := 103) (i := 4) rfl dX7_addCut_103 ?_
    refine ev_ic_le (pc := 105) (tgt := 134) (by decide) dX7_addCut_105 (fun c59 => ?_) (fun c59 => ?_)
    · replace h0 := qi_t h0 c59
      refine ev_aload_n (pc := 134) (i := 0) rfl rfl rfl dX7_addCut_134 ?_
      obtain ⟨g61, h62⟩ := qk_el h0; clear h0
      obtain ⟨b63, e64, h65⟩ := qP_el h62; clear h62
      refine xv_getP (pc := 135) fn_501 (isb_el g61) e64 gw_166 dX7_addCut_135 ?_
      refine ev_iload_n (pc := 138) (i := 1) rfl rfl dX7_addCut_138 ?_
      obtain ⟨g66, h67⟩ := qk_el h65; clear h65
      obtain ⟨g68, h69⟩ := qk_el h67; clear h67
      obtain ⟨b70, e71, h72⟩ := qP_el h69; clear h69
      refine yv_aald (pc := 139) (isb_el g66) (by decide) (inb_el g68) e71 dX7_addCut_139 ?_
      refine ev_iload (pc := 140) (i := 4) rfl dX7_addCut_140 ?_
      refine ev_lload_n (pc := 142) (i := 2) rfl rfl dX7_addCut_142 ?_
      obtain ⟨g73, h74⟩ := qk_el h72; clear h72
      obtain ⟨g75, h76⟩ := qk_el h74; clear h74
      obtain ⟨S77, e78, h79⟩ := qv_el h76; clear h76
      refine yv_last (pc := 143) (isb_el g73) (inb_el g75) e78 dX7_addCut_143 ?_
      refine ev_aload_n (pc := 144) (i := 0) rfl rfl rfl dX7_addCut_144 ?_
      obtain ⟨b80, e81, h82⟩ := qP_el h79; clear h79
      refine xv_getP (pc := 145) fn_503 (is_wJ (isb_el g61) e78) e81 gw_168 dX7_addCut_145 ?_
      refine ev_iload_n (pc := 148) (i := 1) rfl rfl dX7_addCut_148 ?_
      refine ev_dup2 (pc := 149) rfl dX7_addCut_149 ?_
      obtain ⟨g83, h84⟩ := qk_el h82; clear h82
      obtain ⟨g85, h86⟩ := qk_el h84; clear h84
      obtain ⟨x87, e88, h89⟩ := qv_el h86; clear h86
      refine yv_iald (pc := 150) (isb_el g83) (inb_el g85) e88 dX7_addCut_150 ?_
      refine ev_iconst (pc := 151) (v := 1) (by decide) dX7_addCut_151 ?_
      refine ev_iadd (pc := 152)  dX7_addCut_152 ?_
      obtain ⟨g90, h91⟩ := qk_el h89; clear h89
      obtain ⟨S92, e93, h94⟩ := qv_el h91; clear h91
      refine yv_iast (pc := 153) (isb_el g83) (inb_el g90) e93 dX7_addCut_153 ?_
      exact ev_return (pc := 154) rfl (qRU_eq h94) dX7_addCut_154
    · replace h0 := qi_f h0 c59
      refine ev_aload_n (pc := 108) (i := 0) rfl rfl rfl dX7_addCut_108 ?_
      obtain ⟨g95, h96⟩ := qk_el h0; clear h0
      obtain ⟨b97, e98, h99⟩ := qP_el h96; clear h96
      refine xv_getP (pc := 109) fn_501 (isb_el g95) e98 gw_166 dX7_addCut_109 ?_
      refine ev_iload_n (pc := 112) (i := 1) rfl rfl dX7_addCut_112 ?_
      obtain ⟨g100, h101⟩ := qk_el h99; clear h99
      obtain ⟨g102, h103⟩ := qk_el h101; clear h101
      obtain ⟨b104, e105, h106⟩ := qP_el h103; clear h103
      refine yv_aald (pc := 113) (isb_el g100) (by decide) (inb_el g102) e105 dX7_addCut_113 ?_
      refine ev_iload (pc := 114) (i := 5) rfl dX7_addCut_114 ?_
      refine ev_aload_n (pc := 116) (i := 0) rfl rfl rfl dX7_addCut_116 ?_
      obtain ⟨b107, e108, h109⟩ := qP_el h106; clear h106
      refine xv_getP (pc := 117) fn_501 (isb_el g95) e108 gw_166 dX7_addCut_117 ?_
      refine ev_iload_n (pc := 120) (i := 1) rfl rfl dX7_addCut_120 ?_
      obtain ⟨g110, h111⟩ := qk_el h109; clear h109
      obtain ⟨g112, h113⟩ := qk_el h111; clear h111
      obtain ⟨b114, e115, h116⟩ := qP_el h113; clear h113
      refine yv_aald (pc := 121) (isb_el g110) (by decide) (inb_el g112) e115 dX7_addCut_121 ?_
      refine ev_iload (pc := 122) (i := 5) rfl dX7_addCut_122 ?_
      refine ev_iconst (pc := 124) (v := 1) (by decide) dX7_addCut_124 ?_
      refine ev_isub (pc := 125)  dX7_addCut_125 ?_
      obtain ⟨g117, h118⟩ := qk_el h116; clear h116
      obtain ⟨g119, h120⟩ := qk_el h118; clear h118
      obtain ⟨x121, e122, h123⟩ := qv_el h120; clear h120
      refine yv_lald (pc := 126) (isb_el g117) (inb_el g119) e122 dX7_addCut_126 ?_
      obtain ⟨g124, h125⟩ := qk_el h123; clear h123
      obtain ⟨g126, h127⟩ := qk_el h125; clear h125
      obtain ⟨S128, e129, h130⟩ := qv_el h127; clear h127
      refine yv_last (pc := 127) (isb_el g124) (inb_el g126) e129 dX7_addCut_127 ?_
      refine ev_iinc (pc := 128) (L' := [some (.ref l0), some (.int l1), some (.long l2), none, some (.int l4), some (.int (l5 + (-1)))]) (i := 5) (v := (l5 + (-1))) rfl (congrArg (l5 + ·) (by decide)) (by decide) rfl rfl dX7_addCut_128 ?_
      refine ev_goto (pc := 131) (tgt := 101) (by decide) dX7_addCut_131 ?_
      exact (ev_weak (qL_s (qL_s (qL_s (qL_n (qL_s (qL_s qL_nil)))))) (ih _ _ _ _ _ _ _ h130))
theorem e_X7_addCut_67 {X : gk_X} {F : Nat} {l0 : Nat} {l1 : Int32} {l2 : Int64} {l4 : Int32} {S : gk_S} {r : (Unit × gk_S)} (h0 : f_X7_addCut_67 F l0 l1 l2 l4 S = some r) : EvW X m_X7_addCut 1 0 0 67 [some (.ref l0), some (.int l1), some (.long l2), none, some (.int l4), none] [] S (qRU r) := by
  unfold f_X7_addCut_67 at h0
  refine ev_iload (pc := 67) (i := 4) rfl dX7_addCut_67 ?_
  refine ev_aload_n (pc := 69) (i := 0) rfl rfl rfl dX7_addCut_69 ?_
  obtain ⟨g35, h36⟩ := qk_el h0; clear h0
  obtain ⟨b37, e38, h39⟩ := qP_el h36; clear h36
  refine xv_getP (pc := 70) fn_503 (isb_el g35) e38 gw_168 dX7_addCut_70 ?_
  refine ev_iload_n (pc := 73) (i := 1) rfl rfl dX7_addCut_73 ?_
  obtain ⟨g40, h41⟩ := qk_el h39; clear h39
  obtain ⟨g42, h43⟩ := qk_el h41; clear h41
  obtain ⟨x44, e45, h46⟩ := qv_el h43; clear h43
  refine yv_iald (pc := 74) (isb_el g40) (inb_el g42) e45 dX7_addCut_74 ?_
  refine ev_ic_ge (pc := 75) (tgt := 93) (by decide) dX7_addCut_75 (fun c47 => ?_) (fun c47 => ?_)
  · replace h46 := qi_t h46 c47
    refine ev_aload_n (pc := 93) (i := 0) rfl rfl rfl dX7_addCut_93 ?_
    obtain ⟨b49, e50, h51⟩ := qP_el h46; clear h46
    refine xv_getP (pc := 94) fn_503 (isb_el g35) e50 gw_168 dX7_addCut_94 ?_
    refine ev_iload_n (pc := 97) (i := 1) rfl rfl dX7_addCut_97 ?_
    obtain ⟨g52, h53⟩ := qk_el h51; clear h51
    obtain ⟨g54, h55⟩ := qk_el h53; clear h53
    obtain ⟨x56, e57, h58⟩ := qv_el h55; clear h55
    refine yv_iald (pc := 98) (isb_el g52) (inb_el g54) e57 dX7_addCut_98 ?_
    refine ev_istore (pc := 99) (L' := [some (.ref l0), some (.int l1), some (.long l2), none, some (.int l4), some (.int x56)]) (i := 5) (by decide) rfl rfl dX7_addCut_99 ?_
    exact ev_weak (qL_s (qL_s (qL_s (qL_n (qL_s (qL_s qL_nil)))))) (e_X7_addCut_101 F _ _ _ _ _ _ _ h58)
  · replace h46 := qi_f h46 c47
    refine ev_aload_n (pc := 78) (i := 0) rfl rfl rfl dX7_addCut_78 ?_
    obtain ⟨b131, e132, h133⟩ := qP_el h46; clear h46
    refine xv_getP (pc := 79) fn_501 (isb_el g35) e132 gw_166 dX7_addCut_79 ?_
    refine ev_iload_n (pc := 82) (i := 1) rfl rfl dX7_addCut_82 ?_
    obtain ⟨g134, h135⟩ := qk_el h133; clear h133
    obtain ⟨g136, h137⟩ := qk_el h135; clear h135
    obtain ⟨b138, e139, h140⟩ := qP_el h137; clear h137
    refine yv_aald (pc := 83) (isb_el g134) (by decide) (inb_el g136) e139 dX7_addCut_83 ?_
    refine ev_iload (pc := 84) (i := 4) rfl dX7_addCut_84 ?_
    obtain ⟨g141, h142⟩ := qk_el h140; clear h140
    obtain ⟨g143, h144⟩ := qk_el h142; clear h142
    obtain ⟨x145, e146, h147⟩ := qv_el h144; clear h144
    refine yv_lald (pc := 86) (isb_el g141) (inb_el g143) e146 dX7_addCut_86 ?_
    refine ev_lload_n (pc := 87) (i := 2) rfl rfl dX7_addCut_87 ?_
    refine ev_lcmp (pc := 88)  dX7_addCut_88 ?_
    refine ev_if_ne (pc := 89) (tgt := 93) (by decide) dX7_addCut_89 (fun c148 => ?_) (fun c148 => ?_)
    · replace h147 := qi_f h147 (lc_eqN c148)
      refine ev_aload_n (pc := 93) (i := 0) rfl rfl rfl dX7_addCut_93 ?_
      obtain ⟨b150, e151, h152⟩ := qP_el h147; clear h147
      refine xv_getP (pc := 94) fn_503 (isb_el g35) e151 gw_168 dX7_addCut_94 ?_
      refine ev_iload_n (pc := 97) (i := 1) rfl rfl dX7_addCut_97 ?_
      obtain ⟨g153, h154⟩ := qk_el h152; clear h152
      obtain ⟨g155, h156⟩ := qk_el h154; clear h154
      obtain ⟨x157, e158, h159⟩ := qv_el h156; clear h156
      refine yv_iald (pc := 98) (isb_el g153) (inb_el g155) e158 dX7_addCut_98 ?_
      refine ev_istore (pc := 99) (L' := [some (.ref l0), some (.int l1), some (.long l2), none, some (.int l4), some (.int x157)]) (i := 5) (by decide) rfl rfl dX7_addCut_99 ?_
      exact ev_weak (qL_s (qL_s (qL_s (qL_n (qL_s (qL_s qL_nil)))))) (e_X7_addCut_101 F _ _ _ _ _ _ _ h159)
    · replace h147 := qi_t h147 (lc_eq c148)
      exact ev_return (pc := 92) rfl (qRU_eq h147) dX7_addCut_92
theorem e_X7_addCut_40 {X : gk_X} {F : Nat} : ∀ (n : Nat) (l0 : Nat) (l1 : Int32) (l2 : Int64) (l4 : Int32) (S : gk_S) (r : (Unit × gk_S)), f_X7_addCut_40 F n l0 l1 l2 l4 S = some r → EvW X m_X7_addCut 1 0 0 40 [some (.ref l0), some (.int l1), some (.long l2), none, some (.int l4), none] [] S (qRU r) := by
  intro n
  induction n with
  | zero => intro l0 l1 l2 l4 S r h0; rw [f_X7_addCut_40] at h0; cases h0
  | succ n ih =>
    intro l0 l1 l2 l4 S r h0; rw [f_X7_addCut_40] at h0
    refine ev_iload (pc := 40) (i := 4) rfl dX7_addCut_40 ?_
    refine ev_if_le (pc := 42) (tgt := 67) (by decide) dX7_addCut_42 (fun c33 => ?_) (fun c33 => ?_)
    · replace h0 := qi_t h0 c33
      exact ev_weak (qL_s (qL_s (qL_s (qL_n (qL_s (qL_n qL_nil)))))) (e_X7_addCut_67 h0)
    · replace h0 := qi_f h0 c33
      refine ev_aload_n (pc := 45) (i := 0) rfl rfl rfl dX7_addCut_45 ?_
      obtain ⟨g160, h161⟩ := qk_el h0; clear h0
      obtain ⟨b162, e163, h164⟩ := qP_el h161; clear h161
      refine xv_getP (pc := 46) fn_501 (isb_el g160) e163 gw_166 dX7_addCut_46 ?_
      refine ev_iload_n (pc := 49) (i := 1) rfl rfl dX7_addCut_49 ?_
      obtain ⟨g165, h166⟩ := qk_el h164; clear h164
      obtain ⟨g167, h168⟩ := qk_el h166; clear h166
      obtain ⟨b169, e170, h171⟩ := qP_el h168; clear h168
      refine yv_aald (pc := 50) (isb_el g165) (by decide) (inb_el g167) e170 dX7_addCut_50 ?_
      refine ev_iload (pc := 51) (i := 4) rfl dX7_addCut_51 ?_
      refine ev_iconst (pc := 53) (v := 1) (by decide) dX7_addCut_53 ?_
      refine ev_isub (pc := 54)  dX7_addCut_54 ?_
      obtain ⟨g172, h173⟩ := qk_el h171; clear h171
      obtain ⟨g174, h175⟩ := qk_el h173; clear h173
      obtain ⟨x176, e177, h178⟩ := qv_el h175; clear h175
      refine yv_lald (pc := 55) (isb_el g172) (inb_el g174) e177 dX7_addCut_55 ?_
      refine ev_lload_n (pc := 56) (i := 2) rfl rfl dX7_addCut_56 ?_
      refine ev_lcmp (pc := 57)  dX7_addCut_57 ?_
      refine ev_if_lt (pc := 58) (tgt := 67) (by decide) dX7_addCut_58 (fun c179 => ?_) (fun c179 => ?_)
      · replace h178 := qi_t h178 (lc_lt c179)
        exact ev_weak (qL_s (qL_s (qL_s (qL_n (qL_s (qL_n qL_nil)))))) (e_X7_addCut_67 h178)
      · replace h178 := qi_f h178 (lc_ltN c179)
        refine ev_iinc (pc := 61) (L' := [some (.ref l0), some (.int l1), some (.long l2), none, some (.int (l4 + (-1))), none]) (i := 4) (v := (l4 + (-1))) rfl (congrArg (l4 + ·) (by decide)) (by decide) rfl rfl dX7_addCut_61 ?_
        refine ev_goto (pc := 64) (tgt := 40) (by decide) dX7_addCut_64 ?_
        exact (ev_weak (qL_s (qL_s (qL_s (qL_n (qL_s (qL_n qL_nil)))))) (ih _ _ _ _ _ _ h178))
theorem e_X7_addCut {X : gk_X} {F : Nat} {S : gk_S} {a : Nat} {p0 : Int32} {p1 : Int64} {r : (Unit × gk_S)} (h0 : f_X7_addCut F S a p0 p1 = some r) : EvM X m_X7_addCut 1 0 0 [.ref a, .int p0, .long p1] S (qRU r) := by
  unfold f_X7_addCut at h0
  refine ev_method (by decide +kernel) rfl rfl (Nat.le_of_ble_eq_true rfl) ?_
  show EvW X m_X7_addCut 1 0 0 0 [some (.ref a), some (.int p0), some (.long p1), none, none, none] [] S _
  refine ev_iload_n (pc := 0) (i := 1) rfl rfl dX7_addCut_0 ?_
  refine ev_if_lt (pc := 1) (tgt := 31) (by decide) dX7_addCut_1 (fun c1 => ?_) (fun c1 => ?_)
  · replace h0 := qi_t h0 c1
    exact ev_return (pc := 31) rfl (qRU_eq h0) dX7_addCut_31
  · replace h0 := qi_f h0 c1
    refine ev_iload_n (pc := 4) (i := 1) rfl rfl dX7_addCut_4 ?_
    refine ev_bipush (pc := 5) (v := 7) (by decide) dX7_addCut_5 ?_
    refine ev_ic_ge (pc := 7) (tgt := 31) (by decide) dX7_addCut_7 (fun c3 => ?_) (fun c3 => ?_)
    · replace h0 := qi_t h0 c3
      exact ev_return (pc := 31) rfl (qRU_eq h0) dX7_addCut_31
    · replace h0 := qi_f h0 c3
      refine ev_lload_n (pc := 10) (i := 2) rfl rfl dX7_addCut_10 ?_
      refine ev_getsTN (pc := 11) (by decide +kernel) dX7_addCut_11 ?_
      refine ev_iload_n (pc := 14) (i := 1) rfl rfl dX7_addCut_14 ?_
      obtain ⟨g5, h6⟩ := qk_el h0; clear h0
      refine ev_caldT (pc := 15) (inb_el g5) dX7_addCut_15 ?_
      refine ev_lcmp (pc := 16)  dX7_addCut_16 ?_
      refine ev_if_gt (pc := 17) (tgt := 31) (by decide) dX7_addCut_17 (fun c7 => ?_) (fun c7 => ?_)
      · replace h6 := qi_t h6 (lc_gt c7)
        exact ev_return (pc := 31) rfl (qRU_eq h6) dX7_addCut_31
      · replace h6 := qi_f h6 (lc_gtN c7)
        refine ev_aload_n (pc := 20) (i := 0) rfl rfl rfl dX7_addCut_20 ?_
        obtain ⟨g9, h10⟩ := qk_el h6; clear h6
        obtain ⟨b11, e12, h13⟩ := qP_el h10; clear h10
        refine xv_getP (pc := 21) fn_503 (isb_el g9) e12 gw_168 dX7_addCut_21 ?_
        refine ev_iload_n (pc := 24) (i := 1) rfl rfl dX7_addCut_24 ?_
        obtain ⟨g14, h15⟩ := qk_el h13; clear h13
        obtain ⟨g16, h17⟩ := qk_el h15; clear h15
        obtain ⟨x18, e19, h20⟩ := qv_el h17; clear h17
        refine yv_iald (pc := 25) (isb_el g14) (inb_el g16) e19 dX7_addCut_25 ?_
        refine ev_bipush (pc := 26) (v := 65) (by decide) dX7_addCut_26 ?_
        refine ev_ic_lt (pc := 28) (tgt := 32) (by decide) dX7_addCut_28 (fun c21 => ?_) (fun c21 => ?_)
        · replace h20 := qi_t h20 c21
          refine ev_aload_n (pc := 32) (i := 0) rfl rfl rfl dX7_addCut_32 ?_
          obtain ⟨b23, e24, h25⟩ := qP_el h20; clear h20
          refine xv_getP (pc := 33) fn_503 (isb_el g9) e24 gw_168 dX7_addCut_33 ?_
          refine ev_iload_n (pc := 36) (i := 1) rfl rfl dX7_addCut_36 ?_
          obtain ⟨g26, h27⟩ := qk_el h25; clear h25
          obtain ⟨g28, h29⟩ := qk_el h27; clear h27
          obtain ⟨x30, e31, h32⟩ := qv_el h29; clear h29
          refine yv_iald (pc := 37) (isb_el g26) (inb_el g28) e31 dX7_addCut_37 ?_
          refine ev_istore (pc := 38) (L' := [some (.ref a), some (.int p0), some (.long p1), none, some (.int x30), none]) (i := 4) (by decide) rfl rfl dX7_addCut_38 ?_
          exact ev_weak (qL_s (qL_s (qL_s (qL_n (qL_s (qL_n qL_nil)))))) (e_X7_addCut_40 F _ _ _ _ _ _ h32)
        · replace h20 := qi_f h20 c21
          exact ev_return (pc := 31) rfl (qRU_eq h20) dX7_addCut_31
theorem dX7_addCuts_0 : decode cX7_addCuts 0 = .ok (.iconst 0, 1) := by decide +kernel
theorem dX7_addCuts_1 : decode cX7_addCuts 1 = .ok (.istore_n 3, 1) := by decide +kernel
theorem dX7_addCuts_2 : decode cX7_addCuts 2 = .ok (.iload_n 3, 1) := by decide +kernel
theorem dX7_addCuts_3 : decode cX7_addCuts 3 = .ok (.iload_n 2, 1) := by decide +kernel
theorem dX7_addCuts_4 : decode cX7_addCuts 4 = .ok (.if_icmp .ge 68, 3) := by decide +kernel
theorem dX7_addCuts_7 : decode cX7_addCuts 7 = .ok (.iload_n 3, 1) := by decide +kernel
theorem dX7_addCuts_8 : decode cX7_addCuts 8 = .ok (.bipush 16, 2) := by decide +kernel
theorem dX7_addCuts_10 : decode cX7_addCuts 10 = .ok (.if_icmp .ge 62, 3) := by decide +kernel
theorem dX7_addCuts_13 : decode cX7_addCuts 13 = .ok (.aload_n 1, 1) := by decide +kernel
theorem dX7_addCuts_14 : decode cX7_addCuts 14 = .ok (.iload_n 3, 1) := by decide +kernel
theorem dX7_addCuts_15 : decode cX7_addCuts 15 = .ok (.invokevirtual 85, 3) := by decide +kernel
theorem dX7_addCuts_18 : decode cX7_addCuts 18 = .ok (.astore 4, 2) := by decide +kernel
theorem dX7_addCuts_20 : decode cX7_addCuts 20 = .ok (.iconst 0, 1) := by decide +kernel
theorem dX7_addCuts_21 : decode cX7_addCuts 21 = .ok (.istore 5, 2) := by decide +kernel
theorem dX7_addCuts_23 : decode cX7_addCuts 23 = .ok (.iload 5, 2) := by decide +kernel
theorem dX7_addCuts_25 : decode cX7_addCuts 25 = .ok (.bipush 6, 2) := by decide +kernel
theorem dX7_addCuts_27 : decode cX7_addCuts 27 = .ok (.if_icmp .ge 39, 3) := by decide +kernel
theorem dX7_addCuts_30 : decode cX7_addCuts 30 = .ok (.aload_n 0, 1) := by decide +kernel
theorem dX7_addCuts_31 : decode cX7_addCuts 31 = .ok (.iload 5, 2) := by decide +kernel
theorem dX7_addCuts_33 : decode cX7_addCuts 33 = .ok (.aload 4, 2) := by decide +kernel
theorem dX7_addCuts_35 : decode cX7_addCuts 35 = .ok (.getfield 95, 3) := by decide +kernel
theorem dX7_addCuts_38 : decode cX7_addCuts 38 = .ok (.iload 5, 2) := by decide +kernel
theorem dX7_addCuts_40 : decode cX7_addCuts 40 = .ok (.laload, 1) := by decide +kernel
theorem dX7_addCuts_41 : decode cX7_addCuts 41 = .ok (.invokevirtual 98, 3) := by decide +kernel
theorem dX7_addCuts_44 : decode cX7_addCuts 44 = .ok (.aload_n 0, 1) := by decide +kernel
theorem dX7_addCuts_45 : decode cX7_addCuts 45 = .ok (.iload 5, 2) := by decide +kernel
theorem dX7_addCuts_47 : decode cX7_addCuts 47 = .ok (.aload 4, 2) := by decide +kernel
theorem dX7_addCuts_49 : decode cX7_addCuts 49 = .ok (.getfield 102, 3) := by decide +kernel
theorem dX7_addCuts_52 : decode cX7_addCuts 52 = .ok (.iload 5, 2) := by decide +kernel
theorem dX7_addCuts_54 : decode cX7_addCuts 54 = .ok (.laload, 1) := by decide +kernel
theorem dX7_addCuts_55 : decode cX7_addCuts 55 = .ok (.lconst 1, 1) := by decide +kernel
theorem dX7_addCuts_56 : decode cX7_addCuts 56 = .ok (.ladd, 1) := by decide +kernel
theorem dX7_addCuts_57 : decode cX7_addCuts 57 = .ok (.invokevirtual 98, 3) := by decide +kernel
theorem dX7_addCuts_60 : decode cX7_addCuts 60 = .ok (.iinc 5 1, 3) := by decide +kernel
theorem dX7_addCuts_63 : decode cX7_addCuts 63 = .ok (.goto (-40), 3) := by decide +kernel
theorem dX7_addCuts_66 : decode cX7_addCuts 66 = .ok (.iinc 3 1, 3) := by decide +kernel
theorem dX7_addCuts_69 : decode cX7_addCuts 69 = .ok (.goto (-67), 3) := by decide +kernel
theorem dX7_addCuts_72 : decode cX7_addCuts 72 = .ok (.iconst 1, 1) := by decide +kernel
theorem dX7_addCuts_73 : decode cX7_addCuts 73 = .ok (.istore_n 3, 1) := by decide +kernel
theorem dX7_addCuts_74 : decode cX7_addCuts 74 = .ok (.iload_n 3, 1) := by decide +kernel
theorem dX7_addCuts_75 : decode cX7_addCuts 75 = .ok (.iconst 4, 1) := by decide +kernel
theorem dX7_addCuts_76 : decode cX7_addCuts 76 = .ok (.if_icmp .ge 17, 3) := by decide +kernel
theorem dX7_addCuts_79 : decode cX7_addCuts 79 = .ok (.aload_n 0, 1) := by decide +kernel
theorem dX7_addCuts_80 : decode cX7_addCuts 80 = .ok (.bipush 6, 2) := by decide +kernel
theorem dX7_addCuts_82 : decode cX7_addCuts 82 = .ok (.iload_n 3, 1) := by decide +kernel
theorem dX7_addCuts_83 : decode cX7_addCuts 83 = .ok (.i2l, 1) := by decide +kernel
theorem dX7_addCuts_84 : decode cX7_addCuts 84 = .ok (.invokevirtual 98, 3) := by decide +kernel
theorem dX7_addCuts_87 : decode cX7_addCuts 87 = .ok (.iinc 3 1, 3) := by decide +kernel
theorem dX7_addCuts_90 : decode cX7_addCuts 90 = .ok (.goto (-16), 3) := by decide +kernel
theorem dX7_addCuts_93 : decode cX7_addCuts 93 = .ok (.return_, 1) := by decide +kernel
theorem e_X7_addCuts_74 {X : gk_X} {F : Nat} : ∀ (n : Nat) (l0 : Nat) (l3 : Int32) (S : gk_S) (r : (Unit × gk_S)), f_X7_addCuts_74 F n l0 l3 S = some r → EvW X m_X7_addCuts 2 0 0 74 [some (.ref l0), none, none, some (.int l3), none, none] [] S (qRU r) := by
  intro n
  induction n with
  | zero => intro l0 l3 S r h0; rw [f_X7_addCuts_74] at h0; cases h0
  | succ n ih =>
    intro l0 l3 S r h0; rw [f_X7_addCuts_74] at h0
    refine ev_iload_n (pc := 74) (i := 3) rfl rfl dX7_addCuts_74 ?_
    refine ev_iconst (pc := 75) (v := 4) (by decide) dX7_addCuts_75 ?_
    refine ev_ic_ge (pc := 76) (tgt := 93) (by decide) dX7_addCuts_76 (fun c3 => ?_) (fun c3 => ?_)
    · replace h0 := qi_t h0 c3
      exact ev_return (pc := 93) rfl (qRU_eq h0) dX7_addCuts_93
    · replace h0 := qi_f h0 c3
      refine ev_aload_n (pc := 79) (i := 0) rfl rfl rfl dX7_addCuts_79 ?_
      refine ev_bipush (pc := 80) (v := 6) (by decide) dX7_addCuts_80 ?_
      refine ev_iload_n (pc := 82) (i := 3) rfl rfl dX7_addCuts_82 ?_
      refine ev_i2l (pc := 83)  dX7_addCuts_83 ?_
      obtain ⟨g5, h6⟩ := qk_el h0; clear h0
      obtain ⟨x7, S8, e9, h10⟩ := qc_el h6; clear h6
      refine xv_callV (pc := 84) (st := []) (as := [.int 6, .long ((l3 : Int32).toInt64)]) (v := none) (S' := S8) ok_X7_addCut (e_X7_addCut e9) (isb_el g5) (by decide) rfl (Nat.le_of_ble_eq_true rfl) rfl gw_829 dX7_addCuts_84 ?_
      refine ev_iinc (pc := 87) (L' := [some (.ref l0), none, none, some (.int (l3 + 1)), none, none]) (i := 3) (v := (l3 + 1)) rfl rfl (by decide) rfl rfl dX7_addCuts_87 ?_
      refine ev_goto (pc := 90) (tgt := 74) (by decide) dX7_addCuts_90 ?_
      exact (ev_weak (qL_s (qL_n (qL_n (qL_s (qL_n (qL_n qL_nil)))))) (ih _ _ _ _ h10))
theorem e_X7_addCuts_23 {X : gk_X} {F : Nat} {k2 : Nat → Nat → Int32 → Int32 → gk_S → Option (Unit × gk_S)} (hk2 : ∀ (l0 : Nat) (l1 : Nat) (l2 : Int32) (l3 : Int32) (S : gk_S) (r : (Unit × gk_S)), k2 l0 l1 l2 l3 S = some r → EvW X m_X7_addCuts 2 0 0 2 [some (.ref l0), some (.ref l1), some (.int l2), some (.int l3), none, none] [] S (qRU r)) : ∀ (n : Nat) (l0 : Nat) (l1 : Nat) (l2 : Int32) (l3 : Int32) (l4 : Nat) (l5 : Int32) (S : gk_S) (r : (Unit × gk_S)), f_X7_addCuts_23 F k2 n l0 l1 l2 l3 l4 l5 S = some r → EvW X m_X7_addCuts 2 0 0 23 [some (.ref l0), some (.ref l1), some (.int l2), some (.int l3), some (.ref l4), some (.int l5)] [] S (qRU r) := by
  intro n
  induction n with
  | zero => intro l0 l1 l2 l3 l4 l5 S r h0; rw [f_X7_addCuts_23] at h0; cases h0
  | succ n ih =>
    intro l0 l1 l2 l3 l4 l5 S r h0; rw [f_X7_addCuts_23] at h0
    refine ev_iload (pc := 23) (i := 5) rfl dX7_addCuts_23 ?_
    refine ev_bipush (pc := 25) (v := 6) (by decide) dX7_addCuts_25 ?_
    refine ev_ic_ge (pc := 27) (tgt := 66) (by decide) dX7_addCuts_27 (fun c19 => ?_) (fun c19 => ?_)
    · replace h0 := qi_t h0 c19
      refine ev_iinc (pc := 66) (L' := [some (.ref l0), some (.ref l1), some (.int l2), some (.int (l3 + 1)), some (.ref l4), some (.int l5)]) (i := 3) (v := (l3 + 1)) rfl rfl (by decide) rfl rfl dX7_addCuts_66 ?_
      refine ev_goto (pc := 69) (tgt := 2) (by decide) dX7_addCuts_69 ?_
      exact ev_weak (qL_s (qL_s (qL_s (qL_s (qL_n (qL_n qL_nil)))))) (hk2 _ _ _ _ _ _ h0)
    · replace h0 := qi_f h0 c19
      refine ev_aload_n (pc := 30) (i := 0) rfl rfl rfl dX7_addCuts_30 ?_
      refine ev_iload (pc := 31) (i := 5) rfl dX7_addCuts_31 ?_
      refine ev_aload (pc := 33) (i := 4) rfl rfl dX7_addCuts_33 ?_
      obtain ⟨g21, h22⟩ := qk_el h0; clear h0
      obtain ⟨b23, e24, h25⟩ := qP_el h22; clear h22
      refine xv_getP (pc := 35) fn_300 (isb_el g21) e24 gw_66 dX7_addCuts_35 ?_
      refine ev_iload (pc := 38) (i := 5) rfl dX7_addCuts_38 ?_
      obtain ⟨g26, h27⟩ := qk_el h25; clear h25
      obtain ⟨g28, h29⟩ := qk_el h27; clear h27
      obtain ⟨x30, e31, h32⟩ := qv_el h29; clear h29
      refine yv_lald (pc := 40) (isb_el g26) (inb_el g28) e31 dX7_addCuts_40 ?_
      obtain ⟨g33, h34⟩ := qk_el h32; clear h32
      obtain ⟨x35, S36, e37, h38⟩ := qc_el h34; clear h34
      refine xv_callV (pc := 41) (st := []) (as := [.int l5, .long x30]) (v := none) (S' := S36) ok_X7_addCut (e_X7_addCut e37) (isb_el g33) (by decide) rfl (Nat.le_of_ble_eq_true rfl) rfl gw_829 dX7_addCuts_41 ?_
      refine ev_aload_n (pc := 44) (i := 0) rfl rfl rfl dX7_addCuts_44 ?_
      refine ev_iload (pc := 45) (i := 5) rfl dX7_addCuts_45 ?_
      refine ev_aload (pc := 47) (i := 4) rfl rfl dX7_addCuts_47 ?_
      obtain ⟨g39, h40⟩ := qk_el h38; clear h38
      obtain ⟨b41, e42, h43⟩ := qP_el h40; clear h40
      refine xv_getP (pc := 49) fn_301 (isb_el g39) e42 gw_69 dX7_addCuts_49 ?_
      refine ev_iload (pc := 52) (i := 5) rfl dX7_addCuts_52 ?_
      obtain ⟨g44, h45⟩ := qk_el h43; clear h43
      obtain ⟨g46, h47⟩ := qk_el h45; clear h45
      obtain ⟨x48, e49, h50⟩ := qv_el h47; clear h47
      refine yv_lald (pc := 54) (isb_el g44) (inb_el g46) e49 dX7_addCuts_54 ?_
      refine ev_lconst (pc := 55) (v := 1) (by decide) dX7_addCuts_55 ?_
      refine ev_ladd (pc := 56)  dX7_addCuts_56 ?_
      obtain ⟨g51, h52⟩ := qk_el h50; clear h50
      obtain ⟨x53, S54, e55, h56⟩ := qc_el h52; clear h52
      refine xv_callV (pc := 57) (st := []) (as := [.int l5, .long (x48 + 1)]) (v := none) (S' := S54) ok_X7_addCut (e_X7_addCut e55) (isb_el g51) (by decide) rfl (Nat.le_of_ble_eq_true rfl) rfl gw_829 dX7_addCuts_57 ?_
      refine ev_iinc (pc := 60) (L' := [some (.ref l0), some (.ref l1), some (.int l2), some (.int l3), some (.ref l4), some (.int (l5 + 1))]) (i := 5) (v := (l5 + 1)) rfl rfl (by decide) rfl rfl dX7_addCuts_60 ?_
      refine ev_goto (pc := 63) (tgt := 23) (by decide) dX7_addCuts_63 ?_
      exact (ev_weak (qL_s (qL_s (qL_s (qL_s (qL_s (qL_s qL_nil)))))) (ih _ _ _ _ _ _ _ _ h56))
theorem e_X7_addCuts_2 {X : gk_X} {F : Nat} : ∀ (n : Nat) (l0 : Nat) (l1 : Nat) (l2 : Int32) (l3 : Int32) (S : gk_S) (r : (Unit × gk_S)), f_X7_addCuts_2 F n l0 l1 l2 l3 S = some r → EvW X m_X7_addCuts 2 0 0 2 [some (.ref l0), some (.ref l1), some (.int l2), some (.int l3), none, none] [] S (qRU r) := by
  intro n
  induction n with
  | zero => intro l0 l1 l2 l3 S r h0; rw [f_X7_addCuts_2] at h0; cases h0
  | succ n ih =>
    intro l0 l1 l2 l3 S r h0; rw [f_X7_addCuts_2] at h0
    refine ev_iload_n (pc := 2) (i := 3) rfl rfl dX7_addCuts_2 ?_
    refine ev_iload_n (pc := 3) (i := 2) rfl rfl dX7_addCuts_3 ?_
    refine ev_ic_ge (pc := 4) (tgt := 72) (by decide) dX7_addCuts_4 (fun c1 => ?_) (fun c1 => ?_)
    · replace h0 := qi_t h0 c1
      refine ev_iconst (pc := 72) (v := 1) (by decide) dX7_addCuts_72 ?_
      refine ev_istore_n (pc := 73) (L' := [some (.ref l0), some (.ref l1), some (.int l2), some (.int 1), none, none]) (i := 3) rfl (by decide) rfl rfl dX7_addCuts_73 ?_
      exact ev_weak (qL_s (qL_n (qL_n (qL_s (qL_n (qL_n qL_nil)))))) (e_X7_addCuts_74 F _ _ _ _ h0)
    · replace h0 := qi_f h0 c1
      refine ev_iload_n (pc := 7) (i := 3) rfl rfl dX7_addCuts_7 ?_
      refine ev_bipush (pc := 8) (v := 16) (by decide) dX7_addCuts_8 ?_
      refine ev_ic_ge (pc := 10) (tgt := 72) (by decide) dX7_addCuts_10 (fun c11 => ?_) (fun c11 => ?_)
      · replace h0 := qi_t h0 c11
        refine ev_iconst (pc := 72) (v := 1) (by decide) dX7_addCuts_72 ?_
        refine ev_istore_n (pc := 73) (L' := [some (.ref l0), some (.ref l1), some (.int l2), some (.int 1), none, none]) (i := 3) rfl (by decide) rfl rfl dX7_addCuts_73 ?_
        exact ev_weak (qL_s (qL_n (qL_n (qL_s (qL_n (qL_n qL_nil)))))) (e_X7_addCuts_74 F _ _ _ _ h0)
      · replace h0 := qi_f h0 c11
        refine ev_aload_n (pc := 13) (i := 1) rfl rfl rfl dX7_addCuts_13 ?_
        refine ev_iload_n (pc := 14) (i := 3) rfl rfl dX7_addCuts_14 ?_
        obtain ⟨g13, h14⟩ := qk_el h0; clear h0
        obtain ⟨x15, S16, e17, h18⟩ := qc_el h14; clear h14
        refine xv_callV (pc := 15) (st := []) (as := [.int l3]) (v := (some (.ref x15))) (S' := S16) ok_X6_at (e_X6_at e17) (isb_el g13) (by decide) rfl (Nat.le_of_ble_eq_true rfl) rfl gw_828 dX7_addCuts_15 ?_
        refine ev_astore (pc := 18) (L' := [some (.ref l0), some (.ref l1), some (.int l2), some (.int l3), some (.ref x15), none]) (i := 4) (by decide) rfl rfl rfl dX7_addCuts_18 ?_
        refine ev_iconst (pc := 20) (v := 0) (by decide) dX7_addCuts_20 ?_
        refine ev_istore (pc := 21) (L' := [some (.ref l0), some (.ref l1), some (.int l2), some (.int l3), some (.ref x15), some (.int 0)]) (i := 5) (by decide) rfl rfl dX7_addCuts_21 ?_
        exact ev_weak (qL_s (qL_s (qL_s (qL_s (qL_s (qL_s qL_nil)))))) (e_X7_addCuts_23 ih F _ _ _ _ _ _ _ _ h18)
theorem e_X7_addCuts {X : gk_X} {F : Nat} {S : gk_S} {a : Nat} {p0 : Nat} {p1 : Int32} {r : (Unit × gk_S)} (h0 : f_X7_addCuts F S a p0 p1 = some r) : EvM X m_X7_addCuts 2 0 0 [.ref a, .ref p0, .int p1] S (qRU r) := by
  unfold f_X7_addCuts at h0
  refine ev_method (by decide +kernel) rfl rfl (Nat.le_of_ble_eq_true rfl) ?_
  show EvW X m_X7_addCuts 2 0 0 0 [some (.ref a), some (.ref p0), some (.int p1), none, none, none] [] S _
  refine ev_iconst (pc := 0) (v := 0) (by decide) dX7_addCuts_0 ?_
  refine ev_istore_n (pc := 1) (L' := [some (.ref a), some (.ref p0), some (.int p1), some (.int 0), none, none]) (i := 3) rfl (by decide) rfl rfl dX7_addCuts_1 ?_
  exact ev_weak (qL_s (qL_s (qL_s (qL_s (qL_n (qL_n qL_nil)))))) (e_X7_addCuts_2 F _ _ _ _ _ _ h0)
theorem dX7_clearMet_0 : decode cX7_clearMet 0 = .ok (.iconst 0, 1) := by decide +kernel
theorem dX7_clearMet_1 : decode cX7_clearMet 1 = .ok (.istore_n 1, 1) := by decide +kernel
theorem dX7_clearMet_2 : decode cX7_clearMet 2 = .ok (.iload_n 1, 1) := by decide +kernel
theorem dX7_clearMet_3 : decode cX7_clearMet 3 = .ok (.bipush 7, 2) := by decide +kernel
theorem dX7_clearMet_5 : decode cX7_clearMet 5 = .ok (.if_icmp .ge 42, 3) := by decide +kernel
theorem dX7_clearMet_8 : decode cX7_clearMet 8 = .ok (.iconst 0, 1) := by decide +kernel
theorem dX7_clearMet_9 : decode cX7_clearMet 9 = .ok (.istore_n 2, 1) := by decide +kernel
theorem dX7_clearMet_10 : decode cX7_clearMet 10 = .ok (.iload_n 2, 1) := by decide +kernel
theorem dX7_clearMet_11 : decode cX7_clearMet 11 = .ok (.aload_n 0, 1) := by decide +kernel
theorem dX7_clearMet_12 : decode cX7_clearMet 12 = .ok (.getfield 25, 3) := by decide +kernel
theorem dX7_clearMet_15 : decode cX7_clearMet 15 = .ok (.iload_n 1, 1) := by decide +kernel
theorem dX7_clearMet_16 : decode cX7_clearMet 16 = .ok (.iaload, 1) := by decide +kernel
theorem dX7_clearMet_17 : decode cX7_clearMet 17 = .ok (.if_icmp .ge 24, 3) := by decide +kernel
theorem dX7_clearMet_20 : decode cX7_clearMet 20 = .ok (.iload_n 2, 1) := by decide +kernel
theorem dX7_clearMet_21 : decode cX7_clearMet 21 = .ok (.bipush 65, 2) := by decide +kernel
theorem dX7_clearMet_23 : decode cX7_clearMet 23 = .ok (.if_icmp .ge 18, 3) := by decide +kernel
theorem dX7_clearMet_26 : decode cX7_clearMet 26 = .ok (.aload_n 0, 1) := by decide +kernel
theorem dX7_clearMet_27 : decode cX7_clearMet 27 = .ok (.getfield 22, 3) := by decide +kernel
theorem dX7_clearMet_30 : decode cX7_clearMet 30 = .ok (.iload_n 1, 1) := by decide +kernel
theorem dX7_clearMet_31 : decode cX7_clearMet 31 = .ok (.aaload, 1) := by decide +kernel
theorem dX7_clearMet_32 : decode cX7_clearMet 32 = .ok (.iload_n 2, 1) := by decide +kernel
theorem dX7_clearMet_33 : decode cX7_clearMet 33 = .ok (.iconst 0, 1) := by decide +kernel
theorem dX7_clearMet_34 : decode cX7_clearMet 34 = .ok (.iastore, 1) := by decide +kernel
theorem dX7_clearMet_35 : decode cX7_clearMet 35 = .ok (.iinc 2 1, 3) := by decide +kernel
theorem dX7_clearMet_38 : decode cX7_clearMet 38 = .ok (.goto (-28), 3) := by decide +kernel
theorem dX7_clearMet_41 : decode cX7_clearMet 41 = .ok (.iinc 1 1, 3) := by decide +kernel
theorem dX7_clearMet_44 : decode cX7_clearMet 44 = .ok (.goto (-42), 3) := by decide +kernel
theorem dX7_clearMet_47 : decode cX7_clearMet 47 = .ok (.return_, 1) := by decide +kernel
theorem e_X7_clearMet_10 {X : gk_X} {F : Nat} {k2 : Nat → Int32 → gk_S → Option (Unit × gk_S)} (hk2 : ∀ (l0 : Nat) (l1 : Int32) (S : gk_S) (r : (Unit × gk_S)), k2 l0 l1 S = some r → EvW X m_X7_clearMet 1 0 0 2 [some (.ref l0), some (.int l1), none] [] S (qRU r)) : ∀ (n : Nat) (l0 : Nat) (l1 : Int32) (l2 : Int32) (S : gk_S) (r : (Unit × gk_S)), f_X7_clearMet_10 F k2 n l0 l1 l2 S = some r → EvW X m_X7_clearMet 1 0 0 10 [some (.ref l0), some (.int l1), some (.int l2)] [] S (qRU r) := by
  intro n
  induction n with
  | zero => intro l0 l1 l2 S r h0; rw [f_X7_clearMet_10] at h0; cases h0
  | succ n ih =>
    intro l0 l1 l2 S r h0; rw [f_X7_clearMet_10] at h0
    refine ev_iload_n (pc := 10) (i := 2) rfl rfl dX7_clearMet_10 ?_
    refine ev_aload_n (pc := 11) (i := 0) rfl rfl rfl dX7_clearMet_11 ?_
    obtain ⟨g3, h4⟩ := qk_el h0; clear h0
    obtain ⟨b5, e6, h7⟩ := qP_el h4; clear h4
    refine xv_getP (pc := 12) fn_503 (isb_el g3) e6 gw_168 dX7_clearMet_12 ?_
    refine ev_iload_n (pc := 15) (i := 1) rfl rfl dX7_clearMet_15 ?_
    obtain ⟨g8, h9⟩ := qk_el h7; clear h7
    obtain ⟨g10, h11⟩ := qk_el h9; clear h9
    obtain ⟨x12, e13, h14⟩ := qv_el h11; clear h11
    refine yv_iald (pc := 16) (isb_el g8) (inb_el g10) e13 dX7_clearMet_16 ?_
    refine ev_ic_ge (pc := 17) (tgt := 41) (by decide) dX7_clearMet_17 (fun c15 => ?_) (fun c15 => ?_)
    · replace h14 := qi_t h14 c15
      refine ev_iinc (pc := 41) (L' := [some (.ref l0), some (.int (l1 + 1)), some (.int l2)]) (i := 1) (v := (l1 + 1)) rfl rfl (by decide) rfl rfl dX7_clearMet_41 ?_
      refine ev_goto (pc := 44) (tgt := 2) (by decide) dX7_clearMet_44 ?_
      exact ev_weak (qL_s (qL_s (qL_n qL_nil))) (hk2 _ _ _ _ h14)
    · replace h14 := qi_f h14 c15
      refine ev_iload_n (pc := 20) (i := 2) rfl rfl dX7_clearMet_20 ?_
      refine ev_bipush (pc := 21) (v := 65) (by decide) dX7_clearMet_21 ?_
      refine ev_ic_ge (pc := 23) (tgt := 41) (by decide) dX7_clearMet_23 (fun c17 => ?_) (fun c17 => ?_)
      · replace h14 := qi_t h14 c17
        refine ev_iinc (pc := 41) (L' := [some (.ref l0), some (.int (l1 + 1)), some (.int l2)]) (i := 1) (v := (l1 + 1)) rfl rfl (by decide) rfl rfl dX7_clearMet_41 ?_
        refine ev_goto (pc := 44) (tgt := 2) (by decide) dX7_clearMet_44 ?_
        exact ev_weak (qL_s (qL_s (qL_n qL_nil))) (hk2 _ _ _ _ h14)
      · replace h14 := qi_f h14 c17
        refine ev_aload_n (pc := 26) (i := 0) rfl rfl rfl dX7_clearMet_26 ?_
        obtain ⟨b19, e20, h21⟩ := qP_el h14; clear h14
        refine xv_getP (pc := 27) fn_502 (isb_el g3) e20 gw_167 dX7_clearMet_27 ?_
        refine ev_iload_n (pc := 30) (i := 1) rfl rfl dX7_clearMet_30 ?_
        obtain ⟨g22, h23⟩ := qk_el h21; clear h21
        obtain ⟨g24, h25⟩ := qk_el h23; clear h23
        obtain ⟨b26, e27, h28⟩ := qP_el h25; clear h25
        refine yv_aald (pc := 31) (isb_el g22) (by decide) (inb_el g24) e27 dX7_clearMet_31 ?_
        refine ev_iload_n (pc := 32) (i := 2) rfl rfl dX7_clearMet_32 ?_
        refine ev_iconst (pc := 33) (v := 0) (by decide) dX7_clearMet_33 ?_
        obtain ⟨g29, h30⟩ := qk_el h28; clear h28
        obtain ⟨g31, h32⟩ := qk_el h30; clear h30
        obtain ⟨S33, e34, h35⟩ := qv_el h32; clear h32
        refine yv_iast (pc := 34) (isb_el g29) (inb_el g31) e34 dX7_clearMet_34 ?_
        refine ev_iinc (pc := 35) (L' := [some (.ref l0), some (.int l1), some (.int (l2 + 1))]) (i := 2) (v := (l2 + 1)) rfl rfl (by decide) rfl rfl dX7_clearMet_35 ?_
        refine ev_goto (pc := 38) (tgt := 10) (by decide) dX7_clearMet_38 ?_
        exact (ev_weak (qL_s (qL_s (qL_s qL_nil))) (ih _ _ _ _ _ h35))
theorem e_X7_clearMet_2 {X : gk_X} {F : Nat} : ∀ (n : Nat) (l0 : Nat) (l1 : Int32) (S : gk_S) (r : (Unit × gk_S)), f_X7_clearMet_2 F n l0 l1 S = some r → EvW X m_X7_clearMet 1 0 0 2 [some (.ref l0), some (.int l1), none] [] S (qRU r) := by
  intro n
  induction n with
  | zero => intro l0 l1 S r h0; rw [f_X7_clearMet_2] at h0; cases h0
  | succ n ih =>
    intro l0 l1 S r h0; rw [f_X7_clearMet_2] at h0
    refine ev_iload_n (pc := 2) (i := 1) rfl rfl dX7_clearMet_2 ?_
    refine ev_bipush (pc := 3) (v := 7) (by decide) dX7_clearMet_3 ?_
    refine ev_ic_ge (pc := 5) (tgt := 47) (by decide) dX7_clearMet_5 (fun c1 => ?_) (fun c1 => ?_)
    · replace h0 := qi_t h0 c1
      exact ev_return (pc := 47) rfl (qRU_eq h0) dX7_clearMet_47
    · replace h0 := qi_f h0 c1
      refine ev_iconst (pc := 8) (v := 0) (by decide) dX7_clearMet_8 ?_
      refine ev_istore_n (pc := 9) (L' := [some (.ref l0), some (.int l1), some (.int 0)]) (i := 2) rfl (by decide) rfl rfl dX7_clearMet_9 ?_
      exact ev_weak (qL_s (qL_s (qL_s qL_nil))) (e_X7_clearMet_10 ih F _ _ _ _ _ h0)
theorem e_X7_clearMet {X : gk_X} {F : Nat} {S : gk_S} {a : Nat} {r : (Unit × gk_S)} (h0 : f_X7_clearMet F S a = some r) : EvM X m_X7_clearMet 1 0 0 [.ref a] S (qRU r) := by
  unfold f_X7_clearMet at h0
  refine ev_method (by decide +kernel) rfl rfl (Nat.le_of_ble_eq_true rfl) ?_
  show EvW X m_X7_clearMet 1 0 0 0 [some (.ref a), none, none] [] S _
  refine ev_iconst (pc := 0) (v := 0) (by decide) dX7_clearMet_0 ?_
  refine ev_istore_n (pc := 1) (L' := [some (.ref a), some (.int 0), none]) (i := 1) rfl (by decide) rfl rfl dX7_clearMet_1 ?_
  exact ev_weak (qL_s (qL_s (qL_n qL_nil))) (e_X7_clearMet_2 F _ _ _ _ h0)
theorem dX5_isWhole_0 : decode cX5_isWhole 0 = .ok (.iload_n 1, 1) := by decide +kernel
theorem dX5_isWhole_1 : decode cX5_isWhole 1 = .ok (.ifCond .lt 9, 3) := by decide +kernel
theorem dX5_isWhole_4 : decode cX5_isWhole 4 = .ok (.iload_n 1, 1) := by decide +kernel
theorem dX5_isWhole_5 : decode cX5_isWhole 5 = .ok (.bipush 6, 2) := by decide +kernel
theorem dX5_isWhole_7 : decode cX5_isWhole 7 = .ok (.if_icmp .lt 18, 3) := by decide +kernel
theorem dX5_isWhole_10 : decode cX5_isWhole 10 = .ok (.aload_n 0, 1) := by decide +kernel
theorem dX5_isWhole_11 : decode cX5_isWhole 11 = .ok (.getfield 18, 3) := by decide +kernel
theorem dX5_isWhole_14 : decode cX5_isWhole 14 = .ok (.bipush 15, 2) := by decide +kernel
theorem dX5_isWhole_16 : decode cX5_isWhole 16 = .ok (.if_icmp .ne 7, 3) := by decide +kernel
theorem dX5_isWhole_19 : decode cX5_isWhole 19 = .ok (.iconst 1, 1) := by decide +kernel
theorem dX5_isWhole_20 : decode cX5_isWhole 20 = .ok (.goto 4, 3) := by decide +kernel
theorem dX5_isWhole_23 : decode cX5_isWhole 23 = .ok (.iconst 0, 1) := by decide +kernel
theorem dX5_isWhole_24 : decode cX5_isWhole 24 = .ok (.ireturn, 1) := by decide +kernel
theorem dX5_isWhole_25 : decode cX5_isWhole 25 = .ok (.aload_n 0, 1) := by decide +kernel
theorem dX5_isWhole_26 : decode cX5_isWhole 26 = .ok (.getfield 9, 3) := by decide +kernel
theorem dX5_isWhole_29 : decode cX5_isWhole 29 = .ok (.iload_n 1, 1) := by decide +kernel
theorem dX5_isWhole_30 : decode cX5_isWhole 30 = .ok (.laload, 1) := by decide +kernel
theorem dX5_isWhole_31 : decode cX5_isWhole 31 = .ok (.lconst 0, 1) := by decide +kernel
theorem dX5_isWhole_32 : decode cX5_isWhole 32 = .ok (.lcmp, 1) := by decide +kernel
theorem dX5_isWhole_33 : decode cX5_isWhole 33 = .ok (.ifCond .ne 22, 3) := by decide +kernel
theorem dX5_isWhole_36 : decode cX5_isWhole 36 = .ok (.aload_n 0, 1) := by decide +kernel
theorem dX5_isWhole_37 : decode cX5_isWhole 37 = .ok (.getfield 15, 3) := by decide +kernel
theorem dX5_isWhole_40 : decode cX5_isWhole 40 = .ok (.iload_n 1, 1) := by decide +kernel
theorem dX5_isWhole_41 : decode cX5_isWhole 41 = .ok (.laload, 1) := by decide +kernel
theorem dX5_isWhole_42 : decode cX5_isWhole 42 = .ok (.getstatic 28, 3) := by decide +kernel
theorem dX5_isWhole_45 : decode cX5_isWhole 45 = .ok (.iload_n 1, 1) := by decide +kernel
theorem dX5_isWhole_46 : decode cX5_isWhole 46 = .ok (.laload, 1) := by decide +kernel
theorem dX5_isWhole_47 : decode cX5_isWhole 47 = .ok (.lcmp, 1) := by decide +kernel
theorem dX5_isWhole_48 : decode cX5_isWhole 48 = .ok (.ifCond .ne 7, 3) := by decide +kernel
theorem dX5_isWhole_51 : decode cX5_isWhole 51 = .ok (.iconst 1, 1) := by decide +kernel
theorem dX5_isWhole_52 : decode cX5_isWhole 52 = .ok (.goto 4, 3) := by decide +kernel
theorem dX5_isWhole_55 : decode cX5_isWhole 55 = .ok (.iconst 0, 1) := by decide +kernel
theorem dX5_isWhole_56 : decode cX5_isWhole 56 = .ok (.ireturn, 1) := by decide +kernel
theorem e_X5_isWhole_10 {X : gk_X} {F : Nat} {l0 : Nat} {S : gk_S} {r : (Int32 × gk_S)} (h0 : f_X5_isWhole_10 F l0 S = some r) : EvW X m_X5_isWhole 1 0 0 10 [some (.ref l0), none] [] S (qRI r) := by
  unfold f_X5_isWhole_10 at h0
  refine ev_aload_n (pc := 10) (i := 0) rfl rfl rfl dX5_isWhole_10 ?_
  obtain ⟨g3, h4⟩ := qk_el h0; clear h0
  obtain ⟨x5, e6, h7⟩ := qv_el h4; clear h4
  refine xv_getIv (pc := 11) fn_302 (isb_el g3) e6 gw_70 dX5_isWhole_11 ?_
  refine ev_bipush (pc := 14) (v := 15) (by decide) dX5_isWhole_14 ?_
  refine ev_ic_ne (pc := 16) (tgt := 23) (by decide) dX5_isWhole_16 (fun c8 => ?_) (fun c8 => ?_)
  · replace h7 := qi_f h7 c8
    refine ev_iconst (pc := 23) (v := 0) (by decide) dX5_isWhole_23 ?_
    exact ev_ireturn (pc := 24) rfl rfl (qRI_eq h7) dX5_isWhole_24
  · replace h7 := qi_t h7 c8
    refine ev_iconst (pc := 19) (v := 1) (by decide) dX5_isWhole_19 ?_
    refine ev_goto (pc := 20) (tgt := 24) (by decide) dX5_isWhole_20 ?_
    exact ev_ireturn (pc := 24) rfl rfl (qRI_eq h7) dX5_isWhole_24
theorem e_X5_isWhole {X : gk_X} {F : Nat} {S : gk_S} {a : Nat} {p0 : Int32} {r : (Int32 × gk_S)} (h0 : f_X5_isWhole F S a p0 = some r) : EvM X m_X5_isWhole 1 0 0 [.ref a, .int p0] S (qRI r) := by
  unfold f_X5_isWhole at h0
  refine ev_method (by decide +kernel) rfl rfl (Nat.le_of_ble_eq_true rfl) ?_
  show EvW X m_X5_isWhole 1 0 0 0 [some (.ref a), some (.int p0)] [] S _
  refine ev_iload_n (pc := 0) (i := 1) rfl rfl dX5_isWhole_0 ?_
  refine ev_if_lt (pc := 1) (tgt := 10) (by decide) dX5_isWhole_1 (fun c1 => ?_) (fun c1 => ?_)
  · replace h0 := qi_t h0 c1
    exact ev_weak (qL_s (qL_n qL_nil)) (e_X5_isWhole_10 h0)
  · replace h0 := qi_f h0 c1
    refine ev_iload_n (pc := 4) (i := 1) rfl rfl dX5_isWhole_4 ?_
    refine ev_bipush (pc := 5) (v := 6) (by decide) dX5_isWhole_5 ?_
    refine ev_ic_lt (pc := 7) (tgt := 25) (by decide) dX5_isWhole_7 (fun c10 => ?_) (fun c10 => ?_)
    · replace h0 := qi_t h0 c10
      refine ev_aload_n (pc := 25) (i := 0) rfl rfl rfl dX5_isWhole_25 ?_
      obtain ⟨g12, h13⟩ := qk_el h0; clear h0
      obtain ⟨b14, e15, h16⟩ := qP_el h13; clear h13
      refine xv_getP (pc := 26) fn_300 (isb_el g12) e15 gw_64 dX5_isWhole_26 ?_
      refine ev_iload_n (pc := 29) (i := 1) rfl rfl dX5_isWhole_29 ?_
      obtain ⟨g17, h18⟩ := qk_el h16; clear h16
      obtain ⟨g19, h20⟩ := qk_el h18; clear h18
      obtain ⟨x21, e22, h23⟩ := qv_el h20; clear h20
      refine yv_lald (pc := 30) (isb_el g17) (inb_el g19) e22 dX5_isWhole_30 ?_
      refine ev_lconst (pc := 31) (v := 0) (by decide) dX5_isWhole_31 ?_
      refine ev_lcmp (pc := 32)  dX5_isWhole_32 ?_
      refine ev_if_ne (pc := 33) (tgt := 55) (by decide) dX5_isWhole_33 (fun c24 => ?_) (fun c24 => ?_)
      · replace h23 := qi_f h23 (lc_eqN c24)
        refine ev_iconst (pc := 55) (v := 0) (by decide) dX5_isWhole_55 ?_
        exact ev_ireturn (pc := 56) rfl rfl (qRI_eq h23) dX5_isWhole_56
      · replace h23 := qi_t h23 (lc_eq c24)
        refine ev_aload_n (pc := 36) (i := 0) rfl rfl rfl dX5_isWhole_36 ?_
        obtain ⟨b26, e27, h28⟩ := qP_el h23; clear h23
        refine xv_getP (pc := 37) fn_301 (isb_el g12) e27 gw_67 dX5_isWhole_37 ?_
        refine ev_iload_n (pc := 40) (i := 1) rfl rfl dX5_isWhole_40 ?_
        obtain ⟨g29, h30⟩ := qk_el h28; clear h28
        obtain ⟨g31, h32⟩ := qk_el h30; clear h30
        obtain ⟨x33, e34, h35⟩ := qv_el h32; clear h32
        refine yv_lald (pc := 41) (isb_el g29) (inb_el g31) e34 dX5_isWhole_41 ?_
        refine ev_getsTN (pc := 42) (by decide +kernel) dX5_isWhole_42 ?_
        refine ev_iload_n (pc := 45) (i := 1) rfl rfl dX5_isWhole_45 ?_
        obtain ⟨g36, h37⟩ := qk_el h35; clear h35
        refine ev_caldT (pc := 46) (inb_el g36) dX5_isWhole_46 ?_
        refine ev_lcmp (pc := 47)  dX5_isWhole_47 ?_
        refine ev_if_ne (pc := 48) (tgt := 55) (by decide) dX5_isWhole_48 (fun c38 => ?_) (fun c38 => ?_)
        · replace h37 := qi_f h37 (lc_eqN c38)
          refine ev_iconst (pc := 55) (v := 0) (by decide) dX5_isWhole_55 ?_
          exact ev_ireturn (pc := 56) rfl rfl (qRI_eq h37) dX5_isWhole_56
        · replace h37 := qi_t h37 (lc_eq c38)
          refine ev_iconst (pc := 51) (v := 1) (by decide) dX5_isWhole_51 ?_
          refine ev_goto (pc := 52) (tgt := 56) (by decide) dX5_isWhole_52 ?_
          exact ev_ireturn (pc := 56) rfl rfl (qRI_eq h37) dX5_isWhole_56
    · replace h0 := qi_f h0 c10
      exact ev_weak (qL_s (qL_n qL_nil)) (e_X5_isWhole_10 h0)
theorem dX5_hasState_0 : decode cX5_hasState 0 = .ok (.aload_n 0, 1) := by decide +kernel
theorem dX5_hasState_1 : decode cX5_hasState 1 = .ok (.getfield 18, 3) := by decide +kernel
theorem dX5_hasState_4 : decode cX5_hasState 4 = .ok (.iload_n 1, 1) := by decide +kernel
theorem dX5_hasState_5 : decode cX5_hasState 5 = .ok (.ishr, 1) := by decide +kernel
theorem dX5_hasState_6 : decode cX5_hasState 6 = .ok (.iconst 1, 1) := by decide +kernel
theorem dX5_hasState_7 : decode cX5_hasState 7 = .ok (.iand, 1) := by decide +kernel
theorem dX5_hasState_8 : decode cX5_hasState 8 = .ok (.ifCond .eq 7, 3) := by decide +kernel
theorem dX5_hasState_11 : decode cX5_hasState 11 = .ok (.iconst 1, 1) := by decide +kernel
theorem dX5_hasState_12 : decode cX5_hasState 12 = .ok (.goto 4, 3) := by decide +kernel
theorem dX5_hasState_15 : decode cX5_hasState 15 = .ok (.iconst 0, 1) := by decide +kernel
theorem dX5_hasState_16 : decode cX5_hasState 16 = .ok (.ireturn, 1) := by decide +kernel
theorem e_X5_hasState {X : gk_X} {F : Nat} {S : gk_S} {a : Nat} {p0 : Int32} {r : (Int32 × gk_S)} (h0 : f_X5_hasState F S a p0 = some r) : EvM X m_X5_hasState 1 0 0 [.ref a, .int p0] S (qRI r) := by
  unfold f_X5_hasState at h0
  refine ev_method (by decide +kernel) rfl rfl (Nat.le_of_ble_eq_true rfl) ?_
  show EvW X m_X5_hasState 1 0 0 0 [some (.ref a), some (.int p0)] [] S _
  refine ev_aload_n (pc := 0) (i := 0) rfl rfl rfl dX5_hasState_0 ?_
  obtain ⟨g1, h2⟩ := qk_el h0; clear h0
  obtain ⟨x3, e4, h5⟩ := qv_el h2; clear h2
  refine xv_getIv (pc := 1) fn_302 (isb_el g1) e4 gw_70 dX5_hasState_1 ?_
  refine ev_iload_n (pc := 4) (i := 1) rfl rfl dX5_hasState_4 ?_
  refine ev_ishr (pc := 5)  dX5_hasState_5 ?_
  refine ev_iconst (pc := 6) (v := 1) (by decide) dX5_hasState_6 ?_
  refine ev_iand (pc := 7)  dX5_hasState_7 ?_
  refine ev_if_eq (pc := 8) (tgt := 15) (by decide) dX5_hasState_8 (fun c6 => ?_) (fun c6 => ?_)
  · replace h5 := qi_t h5 c6
    refine ev_iconst (pc := 15) (v := 0) (by decide) dX5_hasState_15 ?_
    exact ev_ireturn (pc := 16) rfl rfl (qRI_eq h5) dX5_hasState_16
  · replace h5 := qi_f h5 c6
    refine ev_iconst (pc := 11) (v := 1) (by decide) dX5_hasState_11 ?_
    refine ev_goto (pc := 12) (tgt := 16) (by decide) dX5_hasState_12 ?_
    exact ev_ireturn (pc := 16) rfl rfl (qRI_eq h5) dX5_hasState_16
theorem dX7_addMetBy_0 : decode cX7_addMetBy 0 = .ok (.iconst 0, 1) := by decide +kernel
theorem dX7_addMetBy_1 : decode cX7_addMetBy 1 = .ok (.istore 4, 2) := by decide +kernel
theorem dX7_addMetBy_3 : decode cX7_addMetBy 3 = .ok (.iload 4, 2) := by decide +kernel
theorem dX7_addMetBy_5 : decode cX7_addMetBy 5 = .ok (.aload_n 0, 1) := by decide +kernel
theorem dX7_addMetBy_6 : decode cX7_addMetBy 6 = .ok (.getfield 25, 3) := by decide +kernel
theorem dX7_addMetBy_9 : decode cX7_addMetBy 9 = .ok (.iload_n 2, 1) := by decide +kernel
theorem dX7_addMetBy_10 : decode cX7_addMetBy 10 = .ok (.iaload, 1) := by decide +kernel
theorem dX7_addMetBy_11 : decode cX7_addMetBy 11 = .ok (.if_icmp .ge 96, 3) := by decide +kernel
theorem dX7_addMetBy_14 : decode cX7_addMetBy 14 = .ok (.iload 4, 2) := by decide +kernel
theorem dX7_addMetBy_16 : decode cX7_addMetBy 16 = .ok (.bipush 65, 2) := by decide +kernel
theorem dX7_addMetBy_18 : decode cX7_addMetBy 18 = .ok (.if_icmp .ge 89, 3) := by decide +kernel
theorem dX7_addMetBy_21 : decode cX7_addMetBy 21 = .ok (.aload_n 0, 1) := by decide +kernel
theorem dX7_addMetBy_22 : decode cX7_addMetBy 22 = .ok (.getfield 17, 3) := by decide +kernel
theorem dX7_addMetBy_25 : decode cX7_addMetBy 25 = .ok (.iload_n 2, 1) := by decide +kernel
theorem dX7_addMetBy_26 : decode cX7_addMetBy 26 = .ok (.aaload, 1) := by decide +kernel
theorem dX7_addMetBy_27 : decode cX7_addMetBy 27 = .ok (.iload 4, 2) := by decide +kernel
theorem dX7_addMetBy_29 : decode cX7_addMetBy 29 = .ok (.laload, 1) := by decide +kernel
theorem dX7_addMetBy_30 : decode cX7_addMetBy 30 = .ok (.lstore 5, 2) := by decide +kernel
theorem dX7_addMetBy_32 : decode cX7_addMetBy 32 = .ok (.iload_n 2, 1) := by decide +kernel
theorem dX7_addMetBy_33 : decode cX7_addMetBy 33 = .ok (.bipush 6, 2) := by decide +kernel
theorem dX7_addMetBy_35 : decode cX7_addMetBy 35 = .ok (.if_icmp .ne 13, 3) := by decide +kernel
theorem dX7_addMetBy_38 : decode cX7_addMetBy 38 = .ok (.aload_n 1, 1) := by decide +kernel
theorem dX7_addMetBy_39 : decode cX7_addMetBy 39 = .ok (.lload 5, 2) := by decide +kernel
theorem dX7_addMetBy_41 : decode cX7_addMetBy 41 = .ok (.l2i, 1) := by decide +kernel
theorem dX7_addMetBy_42 : decode cX7_addMetBy 42 = .ok (.invokevirtual 119, 3) := by decide +kernel
theorem dX7_addMetBy_45 : decode cX7_addMetBy 45 = .ok (.goto 32, 3) := by decide +kernel
theorem dX7_addMetBy_48 : decode cX7_addMetBy 48 = .ok (.aload_n 1, 1) := by decide +kernel
theorem dX7_addMetBy_49 : decode cX7_addMetBy 49 = .ok (.getfield 95, 3) := by decide +kernel
theorem dX7_addMetBy_52 : decode cX7_addMetBy 52 = .ok (.iload_n 2, 1) := by decide +kernel
theorem dX7_addMetBy_53 : decode cX7_addMetBy 53 = .ok (.laload, 1) := by decide +kernel
theorem dX7_addMetBy_54 : decode cX7_addMetBy 54 = .ok (.lload 5, 2) := by decide +kernel
theorem dX7_addMetBy_56 : decode cX7_addMetBy 56 = .ok (.lcmp, 1) := by decide +kernel
theorem dX7_addMetBy_57 : decode cX7_addMetBy 57 = .ok (.ifCond .gt 19, 3) := by decide +kernel
theorem dX7_addMetBy_60 : decode cX7_addMetBy 60 = .ok (.lload 5, 2) := by decide +kernel
theorem dX7_addMetBy_62 : decode cX7_addMetBy 62 = .ok (.aload_n 1, 1) := by decide +kernel
theorem dX7_addMetBy_63 : decode cX7_addMetBy 63 = .ok (.getfield 102, 3) := by decide +kernel
theorem dX7_addMetBy_66 : decode cX7_addMetBy 66 = .ok (.iload_n 2, 1) := by decide +kernel
theorem dX7_addMetBy_67 : decode cX7_addMetBy 67 = .ok (.laload, 1) := by decide +kernel
theorem dX7_addMetBy_68 : decode cX7_addMetBy 68 = .ok (.lcmp, 1) := by decide +kernel
theorem dX7_addMetBy_69 : decode cX7_addMetBy 69 = .ok (.ifCond .gt 7, 3) := by decide +kernel
theorem dX7_addMetBy_72 : decode cX7_addMetBy 72 = .ok (.iconst 1, 1) := by decide +kernel
theorem dX7_addMetBy_73 : decode cX7_addMetBy 73 = .ok (.goto 4, 3) := by decide +kernel
theorem dX7_addMetBy_76 : decode cX7_addMetBy 76 = .ok (.iconst 0, 1) := by decide +kernel
theorem dX7_addMetBy_77 : decode cX7_addMetBy 77 = .ok (.istore 7, 2) := by decide +kernel
theorem dX7_addMetBy_79 : decode cX7_addMetBy 79 = .ok (.aload_n 0, 1) := by decide +kernel
theorem dX7_addMetBy_80 : decode cX7_addMetBy 80 = .ok (.getfield 22, 3) := by decide +kernel
theorem dX7_addMetBy_83 : decode cX7_addMetBy 83 = .ok (.iload_n 2, 1) := by decide +kernel
theorem dX7_addMetBy_84 : decode cX7_addMetBy 84 = .ok (.aaload, 1) := by decide +kernel
theorem dX7_addMetBy_85 : decode cX7_addMetBy 85 = .ok (.iload 4, 2) := by decide +kernel
theorem dX7_addMetBy_87 : decode cX7_addMetBy 87 = .ok (.dup2, 1) := by decide +kernel
theorem dX7_addMetBy_88 : decode cX7_addMetBy 88 = .ok (.iaload, 1) := by decide +kernel
theorem dX7_addMetBy_89 : decode cX7_addMetBy 89 = .ok (.iload 7, 2) := by decide +kernel
theorem dX7_addMetBy_91 : decode cX7_addMetBy 91 = .ok (.ifCond .eq 7, 3) := by decide +kernel
theorem dX7_addMetBy_94 : decode cX7_addMetBy 94 = .ok (.iload_n 3, 1) := by decide +kernel
theorem dX7_addMetBy_95 : decode cX7_addMetBy 95 = .ok (.goto 4, 3) := by decide +kernel
theorem dX7_addMetBy_98 : decode cX7_addMetBy 98 = .ok (.iconst 0, 1) := by decide +kernel
theorem dX7_addMetBy_99 : decode cX7_addMetBy 99 = .ok (.ior, 1) := by decide +kernel
theorem dX7_addMetBy_100 : decode cX7_addMetBy 100 = .ok (.iastore, 1) := by decide +kernel
theorem dX7_addMetBy_101 : decode cX7_addMetBy 101 = .ok (.iinc 4 1, 3) := by decide +kernel
theorem dX7_addMetBy_104 : decode cX7_addMetBy 104 = .ok (.goto (-101), 3) := by decide +kernel
theorem dX7_addMetBy_107 : decode cX7_addMetBy 107 = .ok (.return_, 1) := by decide +kernel
theorem e_X7_addMetBy_77 {X : gk_X} {F : Nat} {k3 : Nat → Nat → Int32 → Int32 → Int32 → gk_S → Option (Unit × gk_S)} (hk3 : ∀ (l0 : Nat) (l1 : Nat) (l2 : Int32) (l3 : Int32) (l4 : Int32) (S : gk_S) (r : (Unit × gk_S)), k3 l0 l1 l2 l3 l4 S = some r → EvW X m_X7_addMetBy 2 0 0 3 [some (.ref l0), some (.ref l1), some (.int l2), some (.int l3), some (.int l4), none, none, none] [] S (qRU r)) {l0 : Nat} {l1 : Nat} {l2 : Int32} {l3 : Int32} {l4 : Int32} {s0 : Int32} {S : gk_S} {r : (Unit × gk_S)} (h0 : f_X7_addMetBy_77 F k3 l0 l1 l2 l3 l4 s0 S = some r) : EvW X m_X7_addMetBy 2 0 0 77 [some (.ref l0), some (.ref l1), some (.int l2), some (.int l3), some (.int l4), none, none, none] [.int s0] S (qRU r) := by
  unfold f_X7_addMetBy_77 at h0
  refine ev_istore (pc := 77) (L' := [some (.ref l0), some (.ref l1), some (.int l2), some (.int l3), some (.int l4), none, none, some (.int s0)]) (i := 7) (by decide) rfl rfl dX7_addMetBy_77 ?_
  refine ev_aload_n (pc := 79) (i := 0) rfl rfl rfl dX7_addMetBy_79 ?_
  obtain ⟨g50, h51⟩ := qk_el h0; clear h0
  obtain ⟨b52, e53, h54⟩ := qP_el h51; clear h51
  refine xv_getP (pc := 80) fn_502 (isb_el g50) e53 gw_167 dX7_addMetBy_80 ?_
  refine ev_iload_n (pc := 83) (i := 2) rfl rfl dX7_addMetBy_83 ?_
  obtain ⟨g55, h56⟩ := qk_el h54; clear h54
  obtain ⟨g57, h58⟩ := qk_el h56; clear h56
  obtain ⟨b59, e60, h61⟩ := qP_el h58; clear h58
  refine yv_aald (pc := 84) (isb_el g55) (by decide) (inb_el g57) e60 dX7_addMetBy_84 ?_
  refine ev_iload (pc := 85) (i := 4) rfl dX7_addMetBy_85 ?_
  refine ev_dup2 (pc := 87) rfl dX7_addMetBy_87 ?_
  obtain ⟨g62, h63⟩ := qk_el h61; clear h61
  obtain ⟨g64, h65⟩ := qk_el h63; clear h63
  obtain ⟨x66, e67, h68⟩ := qv_el h65; clear h65
  refine yv_iald (pc := 88) (isb_el g62) (inb_el g64) e67 dX7_addMetBy_88 ?_
  refine ev_iload (pc := 89) (i := 7) rfl dX7_addMetBy_89 ?_
  refine ev_if_eq (pc := 91) (tgt := 98) (by decide) dX7_addMetBy_91 (fun c69 => ?_) (fun c69 => ?_)
  · replace h68 := qi_t h68 c69
    refine ev_iconst (pc := 98) (v := 0) (by decide) dX7_addMetBy_98 ?_
    refine ev_ior (pc := 99)  dX7_addMetBy_99 ?_
    obtain ⟨g71, h72⟩ := qk_el h68; clear h68
    obtain ⟨S73, e74, h75⟩ := qv_el h72; clear h72
    refine yv_iast (pc := 100) (isb_el g62) (inb_el g71) e74 dX7_addMetBy_100 ?_
    refine ev_iinc (pc := 101) (L' := [some (.ref l0), some (.ref l1), some (.int l2), some (.int l3), some (.int (l4 + 1)), none, none, some (.int s0)]) (i := 4) (v := (l4 + 1)) rfl rfl (by decide) rfl rfl dX7_addMetBy_101 ?_
    refine ev_goto (pc := 104) (tgt := 3) (by decide) dX7_addMetBy_104 ?_
    exact ev_weak (qL_s (qL_s (qL_s (qL_s (qL_s (qL_n (qL_n (qL_n qL_nil)))))))) (hk3 _ _ _ _ _ _ _ h75)
  · replace h68 := qi_f h68 c69
    refine ev_iload_n (pc := 94) (i := 3) rfl rfl dX7_addMetBy_94 ?_
    refine ev_goto (pc := 95) (tgt := 99) (by decide) dX7_addMetBy_95 ?_
    refine ev_ior (pc := 99)  dX7_addMetBy_99 ?_
    obtain ⟨g76, h77⟩ := qk_el h68; clear h68
    obtain ⟨S78, e79, h80⟩ := qv_el h77; clear h77
    refine yv_iast (pc := 100) (isb_el g62) (inb_el g76) e79 dX7_addMetBy_100 ?_
    refine ev_iinc (pc := 101) (L' := [some (.ref l0), some (.ref l1), some (.int l2), some (.int l3), some (.int (l4 + 1)), none, none, some (.int s0)]) (i := 4) (v := (l4 + 1)) rfl rfl (by decide) rfl rfl dX7_addMetBy_101 ?_
    refine ev_goto (pc := 104) (tgt := 3) (by decide) dX7_addMetBy_104 ?_
    exact ev_weak (qL_s (qL_s (qL_s (qL_s (qL_s (qL_n (qL_n (qL_n qL_nil)))))))) (hk3 _ _ _ _ _ _ _ h80)
theorem e_X7_addMetBy_3 {X : gk_X} {F : Nat} : ∀ (n : Nat) (l0 : Nat) (l1 : Nat) (l2 : Int32) (l3 : Int32) (l4 : Int32) (S : gk_S) (r : (Unit × gk_S)), f_X7_addMetBy_3 F n l0 l1 l2 l3 l4 S = some r → EvW X m_X7_addMetBy 2 0 0 3 [some (.ref l0), some (.ref l1), some (.int l2), some (.int l3), some (.int l4), none, none, none] [] S (qRU r) := by
  intro n
  induction n with
  | zero => intro l0 l1 l2 l3 l4 S r h0; rw [f_X7_addMetBy_3] at h0; cases h0
  | succ n ih =>
    intro l0 l1 l2 l3 l4 S r h0; rw [f_X7_addMetBy_3] at h0
    refine ev_iload (pc := 3) (i := 4) rfl dX7_addMetBy_3 ?_
    refine ev_aload_n (pc := 5) (i := 0) rfl rfl rfl dX7_addMetBy_5 ?_
    obtain ⟨g1, h2⟩ := qk_el h0; clear h0
    obtain ⟨b3, e4, h5⟩ := qP_el h2; clear h2
    refine xv_getP (pc := 6) fn_503 (isb_el g1) e4 gw_168 dX7_addMetBy_6 ?_
    refine ev_iload_n (pc := 9) (i := 2) rfl rfl dX7_addMetBy_9 ?_
    obtain ⟨g6, h7⟩ := qk_el h5; clear h5
    obtain ⟨g8, h9⟩ := qk_el h7; clear h7
    obtain ⟨x10, e11, h12⟩ := qv_el h9; clear h9
    refine yv_iald (pc := 10) (isb_el g6) (inb_el g8) e11 dX7_addMetBy_10 ?_
    refine ev_ic_ge (pc := 11) (tgt := 107) (by decide) dX7_addMetBy_11 (fun c13 => ?_) (fun c13 => ?_)
    · replace h12 := qi_t h12 c13
      exact ev_return (pc := 107) rfl (qRU_eq h12) dX7_addMetBy_107
    · replace h12 := qi_f h12 c13
      refine ev_iload (pc := 14) (i := 4) rfl dX7_addMetBy_14 ?_
      refine ev_bipush (pc := 16) (v := 65) (by decide) dX7_addMetBy_16 ?_
      refine ev_ic_ge (pc := 18) (tgt := 107) (by decide) dX7_addMetBy_18 (fun c15 => ?_) (fun c15 => ?_)
      · replace h12 := qi_t h12 c15
        exact ev_return (pc := 107) rfl (qRU_eq h12) dX7_addMetBy_107
      · replace h12 := qi_f h12 c15
        refine ev_aload_n (pc := 21) (i := 0) rfl rfl rfl dX7_addMetBy_21 ?_
        obtain ⟨b17, e18, h19⟩ := qP_el h12; clear h12
        refine xv_getP (pc := 22) fn_501 (isb_el g1) e18 gw_166 dX7_addMetBy_22 ?_
        refine ev_iload_n (pc := 25) (i := 2) rfl rfl dX7_addMetBy_25 ?_
        obtain ⟨g20, h21⟩ := qk_el h19; clear h19
        obtain ⟨g22, h23⟩ := qk_el h21; clear h21
        obtain ⟨b24, e25, h26⟩ := qP_el h23; clear h23
        refine yv_aald (pc := 26) (isb_el g20) (by decide) (inb_el g22) e25 dX7_addMetBy_26 ?_
        refine ev_iload (pc := 27) (i := 4) rfl dX7_addMetBy_27 ?_
        obtain ⟨g27, h28⟩ := qk_el h26; clear h26
        obtain ⟨g29, h30⟩ := qk_el h28; clear h28
        obtain ⟨x31, e32, h33⟩ := qv_el h30; clear h30
        refine yv_lald (pc := 29) (isb_el g27) (inb_el g29) e32 dX7_addMetBy_29 ?_
        refine ev_lstore (pc := 30) (L' := [some (.ref l0), some (.ref l1), some (.int l2), some (.int l3), some (.int l4), some (.long x31), none, none]) (i := 5) (by decide) rfl rfl dX7_addMetBy_30 ?_
        refine ev_iload_n (pc := 32) (i := 2) rfl rfl dX7_addMetBy_32 ?_
        refine ev_bipush (pc := 33) (v := 6) (by decide) dX7_addMetBy_33 ?_
        refine ev_ic_ne (pc := 35) (tgt := 48) (by decide) dX7_addMetBy_35 (fun c34 => ?_) (fun c34 => ?_)
        · replace h33 := qi_f h33 c34
          refine ev_aload_n (pc := 48) (i := 1) rfl rfl rfl dX7_addMetBy_48 ?_
          obtain ⟨g36, h37⟩ := qk_el h33; clear h33
          obtain ⟨b38, e39, h40⟩ := qP_el h37; clear h37
          refine xv_getP (pc := 49) fn_300 (isb_el g36) e39 gw_66 dX7_addMetBy_49 ?_
          refine ev_iload_n (pc := 52) (i := 2) rfl rfl dX7_addMetBy_52 ?_
          obtain ⟨g41, h42⟩ := qk_el h40; clear h40
          obtain ⟨g43, h44⟩ := qk_el h42; clear h42
          obtain ⟨x45, e46, h47⟩ := qv_el h44; clear h44
          refine yv_lald (pc := 53) (isb_el g41) (inb_el g43) e46 dX7_addMetBy_53 ?_
          refine ev_lload (pc := 54) (i := 5) rfl dX7_addMetBy_54 ?_
          refine ev_lcmp (pc := 56)  dX7_addMetBy_56 ?_
          refine ev_if_gt (pc := 57) (tgt := 76) (by decide) dX7_addMetBy_57 (fun c48 => ?_) (fun c48 => ?_)
          · replace h47 := qi_t h47 (lc_gt c48)
            refine ev_iconst (pc := 76) (v := 0) (by decide) dX7_addMetBy_76 ?_
            exact ev_weak (qL_s (qL_s (qL_s (qL_s (qL_s (qL_n (qL_n (qL_n qL_nil)))))))) (e_X7_addMetBy_77 ih h47)
          · replace h47 := qi_f h47 (lc_gtN c48)
            refine ev_lload (pc := 60) (i := 5) rfl dX7_addMetBy_60 ?_
            refine ev_aload_n (pc := 62) (i := 1) rfl rfl rfl dX7_addMetBy_62 ?_
            obtain ⟨b81, e82, h83⟩ := qP_el h47; clear h47
            refine xv_getP (pc := 63) fn_301 (isb_el g36) e82 gw_69 dX7_addMetBy_63 ?_
            refine ev_iload_n (pc := 66) (i := 2) rfl rfl dX7_addMetBy_66 ?_
            obtain ⟨g84, h85⟩ := qk_el h83; clear h83
            obtain ⟨g86, h87⟩ := qk_el h85; clear h85
            obtain ⟨x88, e89, h90⟩ := qv_el h87; clear h87
            refine yv_lald (pc := 67) (isb_el g84) (inb_el g86) e89 dX7_addMetBy_67 ?_
            refine ev_lcmp (pc := 68)  dX7_addMetBy_68 ?_
            refine ev_if_gt (pc := 69) (tgt := 76) (by decide) dX7_addMetBy_69 (fun c91 => ?_) (fun c91 => ?_)
            · replace h90 := qi_t h90 (lc_gt c91)
              refine ev_iconst (pc := 76) (v := 0) (by decide) dX7_addMetBy_76 ?_
              exact ev_weak (qL_s (qL_s (qL_s (qL_s (qL_s (qL_n (qL_n (qL_n qL_nil)))))))) (e_X7_addMetBy_77 ih h90)
            · replace h90 := qi_f h90 (lc_gtN c91)
              refine ev_iconst (pc := 72) (v := 1) (by decide) dX7_addMetBy_72 ?_
              refine ev_goto (pc := 73) (tgt := 77) (by decide) dX7_addMetBy_73 ?_
              exact ev_weak (qL_s (qL_s (qL_s (qL_s (qL_s (qL_n (qL_n (qL_n qL_nil)))))))) (e_X7_addMetBy_77 ih h90)
        · replace h33 := qi_t h33 c34
          refine ev_aload_n (pc := 38) (i := 1) rfl rfl rfl dX7_addMetBy_38 ?_
          refine ev_lload (pc := 39) (i := 5) rfl dX7_addMetBy_39 ?_
          refine ev_l2i (pc := 41)  dX7_addMetBy_41 ?_
          obtain ⟨g93, h94⟩ := qk_el h33; clear h33
          obtain ⟨x95, S96, e97, h98⟩ := qc_el h94; clear h94
          refine xv_callV (pc := 42) (st := []) (as := [.int ((x31 : Int64).toInt32)]) (v := (some (.int x95))) (S' := S96) ok_X5_hasState (e_X5_hasState e97) (isb_el g93) (by decide) rfl (Nat.le_of_ble_eq_true rfl) rfl gw_847 dX7_addMetBy_42 ?_
          refine ev_goto (pc := 45) (tgt := 77) (by decide) dX7_addMetBy_45 ?_
          exact ev_weak (qL_s (qL_s (qL_s (qL_s (qL_s (qL_n (qL_n (qL_n qL_nil)))))))) (e_X7_addMetBy_77 ih h98)
theorem e_X7_addMetBy {X : gk_X} {F : Nat} {S : gk_S} {a : Nat} {p0 : Nat} {p1 : Int32} {p2 : Int32} {r : (Unit × gk_S)} (h0 : f_X7_addMetBy F S a p0 p1 p2 = some r) : EvM X m_X7_addMetBy 2 0 0 [.ref a, .ref p0, .int p1, .int p2] S (qRU r) := by
  unfold f_X7_addMetBy at h0
  refine ev_method (by decide +kernel) rfl rfl (Nat.le_of_ble_eq_true rfl) ?_
  show EvW X m_X7_addMetBy 2 0 0 0 [some (.ref a), some (.ref p0), some (.int p1), some (.int p2), none, none, none, none] [] S _
  refine ev_iconst (pc := 0) (v := 0) (by decide) dX7_addMetBy_0 ?_
  refine ev_istore (pc := 1) (L' := [some (.ref a), some (.ref p0), some (.int p1), some (.int p2), some (.int 0), none, none, none]) (i := 4) (by decide) rfl rfl dX7_addMetBy_1 ?_
  exact ev_weak (qL_s (qL_s (qL_s (qL_s (qL_s (qL_n (qL_n (qL_n qL_nil)))))))) (e_X7_addMetBy_3 F _ _ _ _ _ _ _ h0)
theorem dX7_addMet_0 : decode cX7_addMet 0 = .ok (.iconst 0, 1) := by decide +kernel
theorem dX7_addMet_1 : decode cX7_addMet 1 = .ok (.istore 4, 2) := by decide +kernel
theorem dX7_addMet_3 : decode cX7_addMet 3 = .ok (.iload 4, 2) := by decide +kernel
theorem dX7_addMet_5 : decode cX7_addMet 5 = .ok (.iload_n 2, 1) := by decide +kernel
theorem dX7_addMet_6 : decode cX7_addMet 6 = .ok (.if_icmp .ge 133, 3) := by decide +kernel
theorem dX7_addMet_9 : decode cX7_addMet 9 = .ok (.iload 4, 2) := by decide +kernel
theorem dX7_addMet_11 : decode cX7_addMet 11 = .ok (.bipush 16, 2) := by decide +kernel
theorem dX7_addMet_13 : decode cX7_addMet 13 = .ok (.if_icmp .ge 126, 3) := by decide +kernel
theorem dX7_addMet_16 : decode cX7_addMet 16 = .ok (.aload_n 1, 1) := by decide +kernel
theorem dX7_addMet_17 : decode cX7_addMet 17 = .ok (.iload 4, 2) := by decide +kernel
theorem dX7_addMet_19 : decode cX7_addMet 19 = .ok (.invokevirtual 85, 3) := by decide +kernel
theorem dX7_addMet_22 : decode cX7_addMet 22 = .ok (.astore 5, 2) := by decide +kernel
theorem dX7_addMet_24 : decode cX7_addMet 24 = .ok (.iconst 1, 1) := by decide +kernel
theorem dX7_addMet_25 : decode cX7_addMet 25 = .ok (.iload 4, 2) := by decide +kernel
theorem dX7_addMet_27 : decode cX7_addMet 27 = .ok (.iload_n 3, 1) := by decide +kernel
theorem dX7_addMet_28 : decode cX7_addMet 28 = .ok (.iadd, 1) := by decide +kernel
theorem dX7_addMet_29 : decode cX7_addMet 29 = .ok (.ishl, 1) := by decide +kernel
theorem dX7_addMet_30 : decode cX7_addMet 30 = .ok (.istore 6, 2) := by decide +kernel
theorem dX7_addMet_32 : decode cX7_addMet 32 = .ok (.iconst 1, 1) := by decide +kernel
theorem dX7_addMet_33 : decode cX7_addMet 33 = .ok (.istore 7, 2) := by decide +kernel
theorem dX7_addMet_35 : decode cX7_addMet 35 = .ok (.bipush 6, 2) := by decide +kernel
theorem dX7_addMet_37 : decode cX7_addMet 37 = .ok (.istore 8, 2) := by decide +kernel
theorem dX7_addMet_39 : decode cX7_addMet 39 = .ok (.iload 8, 2) := by decide +kernel
theorem dX7_addMet_41 : decode cX7_addMet 41 = .ok (.ifCond .lt 62, 3) := by decide +kernel
theorem dX7_addMet_44 : decode cX7_addMet 44 = .ok (.iload 7, 2) := by decide +kernel
theorem dX7_addMet_46 : decode cX7_addMet 46 = .ok (.ifCond .eq 17, 3) := by decide +kernel
theorem dX7_addMet_49 : decode cX7_addMet 49 = .ok (.aload 5, 2) := by decide +kernel
theorem dX7_addMet_51 : decode cX7_addMet 51 = .ok (.iload 8, 2) := by decide +kernel
theorem dX7_addMet_53 : decode cX7_addMet 53 = .ok (.invokevirtual 108, 3) := by decide +kernel
theorem dX7_addMet_56 : decode cX7_addMet 56 = .ok (.ifCond .eq 7, 3) := by decide +kernel
theorem dX7_addMet_59 : decode cX7_addMet 59 = .ok (.iconst 1, 1) := by decide +kernel
theorem dX7_addMet_60 : decode cX7_addMet 60 = .ok (.goto 4, 3) := by decide +kernel
theorem dX7_addMet_63 : decode cX7_addMet 63 = .ok (.iconst 0, 1) := by decide +kernel
theorem dX7_addMet_64 : decode cX7_addMet 64 = .ok (.istore 7, 2) := by decide +kernel
theorem dX7_addMet_66 : decode cX7_addMet 66 = .ok (.aload_n 0, 1) := by decide +kernel
theorem dX7_addMet_67 : decode cX7_addMet 67 = .ok (.getfield 29, 3) := by decide +kernel
theorem dX7_addMet_70 : decode cX7_addMet 70 = .ok (.iload 8, 2) := by decide +kernel
theorem dX7_addMet_72 : decode cX7_addMet 72 = .ok (.dup2, 1) := by decide +kernel
theorem dX7_addMet_73 : decode cX7_addMet 73 = .ok (.iaload, 1) := by decide +kernel
theorem dX7_addMet_74 : decode cX7_addMet 74 = .ok (.iload 7, 2) := by decide +kernel
theorem dX7_addMet_76 : decode cX7_addMet 76 = .ok (.ifCond .eq 8, 3) := by decide +kernel
theorem dX7_addMet_79 : decode cX7_addMet 79 = .ok (.iload 6, 2) := by decide +kernel
theorem dX7_addMet_81 : decode cX7_addMet 81 = .ok (.goto 4, 3) := by decide +kernel
theorem dX7_addMet_84 : decode cX7_addMet 84 = .ok (.iconst 0, 1) := by decide +kernel
theorem dX7_addMet_85 : decode cX7_addMet 85 = .ok (.ior, 1) := by decide +kernel
theorem dX7_addMet_86 : decode cX7_addMet 86 = .ok (.iastore, 1) := by decide +kernel
theorem dX7_addMet_87 : decode cX7_addMet 87 = .ok (.aload_n 0, 1) := by decide +kernel
theorem dX7_addMet_88 : decode cX7_addMet 88 = .ok (.aload 5, 2) := by decide +kernel
theorem dX7_addMet_90 : decode cX7_addMet 90 = .ok (.iload 8, 2) := by decide +kernel
theorem dX7_addMet_92 : decode cX7_addMet 92 = .ok (.iload 6, 2) := by decide +kernel
theorem dX7_addMet_94 : decode cX7_addMet 94 = .ok (.invokevirtual 112, 3) := by decide +kernel
theorem dX7_addMet_97 : decode cX7_addMet 97 = .ok (.iinc 8 (-1), 3) := by decide +kernel
theorem dX7_addMet_100 : decode cX7_addMet 100 = .ok (.goto (-61), 3) := by decide +kernel
theorem dX7_addMet_103 : decode cX7_addMet 103 = .ok (.aload 5, 2) := by decide +kernel
theorem dX7_addMet_105 : decode cX7_addMet 105 = .ok (.getfield 116, 3) := by decide +kernel
theorem dX7_addMet_108 : decode cX7_addMet 108 = .ok (.istore 8, 2) := by decide +kernel
theorem dX7_addMet_110 : decode cX7_addMet 110 = .ok (.iload 8, 2) := by decide +kernel
theorem dX7_addMet_112 : decode cX7_addMet 112 = .ok (.ifCond .lt 21, 3) := by decide +kernel
theorem dX7_addMet_115 : decode cX7_addMet 115 = .ok (.iload 8, 2) := by decide +kernel
theorem dX7_addMet_117 : decode cX7_addMet 117 = .ok (.iconst 3, 1) := by decide +kernel
theorem dX7_addMet_118 : decode cX7_addMet 118 = .ok (.if_icmp .ge 15, 3) := by decide +kernel
theorem dX7_addMet_121 : decode cX7_addMet 121 = .ok (.aload_n 0, 1) := by decide +kernel
theorem dX7_addMet_122 : decode cX7_addMet 122 = .ok (.getfield 32, 3) := by decide +kernel
theorem dX7_addMet_125 : decode cX7_addMet 125 = .ok (.iload 8, 2) := by decide +kernel
theorem dX7_addMet_127 : decode cX7_addMet 127 = .ok (.dup2, 1) := by decide +kernel
theorem dX7_addMet_128 : decode cX7_addMet 128 = .ok (.iaload, 1) := by decide +kernel
theorem dX7_addMet_129 : decode cX7_addMet 129 = .ok (.iload 6, 2) := by decide +kernel
theorem dX7_addMet_131 : decode cX7_addMet 131 = .ok (.ior, 1) := by decide +kernel
theorem dX7_addMet_132 : decode cX7_addMet 132 = .ok (.iastore, 1) := by decide +kernel
theorem dX7_addMet_133 : decode cX7_addMet 133 = .ok (.iinc 4 1, 3) := by decide +kernel
theorem dX7_addMet_136 : decode cX7_addMet 136 = .ok (.goto (-133), 3) := by decide +kernel
theorem dX7_addMet_139 : decode cX7_addMet 139 = .ok (.return_, 1) := by decide +kernel
theorem e_X7_addMet_85 {X : gk_X} {F : Nat} {k39 : Nat → Nat → Int32 → Int32 → Int32 → Nat → Int32 → Int32 → Int32 → gk_S → Option (Unit × gk_S)} (hk39 : ∀ (l0 : Nat) (l1 : Nat) (l2 : Int32) (l3 : Int32) (l4 : Int32) (l5 : Nat) (l6 : Int32) (l7 : Int32) (l8 : Int32) (S : gk_S) (r : (Unit × gk_S)), k39 l0 l1 l2 l3 l4 l5 l6 l7 l8 S = some r → EvW X m_X7_addMet 3 0 0 39 [some (.ref l0), some (.ref l1), some (.int l2), some (.int l3), some (.int l4), some (.ref l5), some (.int l6), some (.int l7), some (.int l8)] [] S (qRU r)) {l0 : Nat} {l1 : Nat} {l2 : Int32} {l3 : Int32} {l4 : Int32} {l5 : Nat} {l6 : Int32} {l7 : Int32} {l8 : Int32} {s0 : Int32} {s1 : Int32} {s2 : Int32} {s3 : Nat} {S : gk_S} {r : (Unit × gk_S)} (h0 : f_X7_addMet_85 F k39 l0 l1 l2 l3 l4 l5 l6 l7 l8 s0 s1 s2 s3 S = some r) : EvW X m_X7_addMet 3 0 0 85 [some (.ref l0), some (.ref l1), some (.int l2), some (.int l3), some (.int l4), some (.ref l5), some (.int l6), some (.int l7), some (.int l8)] [.int s0, .int s1, .int s2, .ref s3] S (qRU r) := by
  unfold f_X7_addMet_85 at h0
  refine ev_ior (pc := 85)  dX7_addMet_85 ?_
  obtain ⟨g58, h59⟩ := qk_el h0; clear h0
  obtain ⟨g60, h61⟩ := qk_el h59; clear h59
  obtain ⟨S62, e63, h64⟩ := qv_el h61; clear h61
  refine yv_iast (pc := 86) (isb_el g58) (inb_el g60) e63 dX7_addMet_86 ?_
  refine ev_aload_n (pc := 87) (i := 0) rfl rfl rfl dX7_addMet_87 ?_
  refine ev_aload (pc := 88) (i := 5) rfl rfl dX7_addMet_88 ?_
  refine ev_iload (pc := 90) (i := 8) rfl dX7_addMet_90 ?_
  refine ev_iload (pc := 92) (i := 6) rfl dX7_addMet_92 ?_
  obtain ⟨g65, h66⟩ := qk_el h64; clear h64
  obtain ⟨x67, S68, e69, h70⟩ := qc_el h66; clear h66
  refine xv_callV (pc := 94) (st := []) (as := [.ref l5, .int l8, .int l6]) (v := none) (S' := S68) ok_X7_addMetBy (e_X7_addMetBy e69) (isb_el g65) (by decide) rfl (Nat.le_of_ble_eq_true rfl) rfl gw_843 dX7_addMet_94 ?_
  refine ev_iinc (pc := 97) (L' := [some (.ref l0), some (.ref l1), some (.int l2), some (.int l3), some (.int l4), some (.ref l5), some (.int l6), some (.int l7), some (.int (l8 + (-1)))]) (i := 8) (v := (l8 + (-1))) rfl (congrArg (l8 + ·) (by decide)) (by decide) rfl rfl dX7_addMet_97 ?_
  refine ev_goto (pc := 100) (tgt := 39) (by decide) dX7_addMet_100 ?_
  exact ev_weak (qL_s (qL_s (qL_s (qL_s (qL_s (qL_s (qL_s (qL_s (qL_s qL_nil))))))))) (hk39 _ _ _ _ _ _ _ _ _ _ _ h70)
theorem e_X7_addMet_64 {X : gk_X} {F : Nat} {k39 : Nat → Nat → Int32 → Int32 → Int32 → Nat → Int32 → Int32 → Int32 → gk_S → Option (Unit × gk_S)} (hk39 : ∀ (l0 : Nat) (l1 : Nat) (l2 : Int32) (l3 : Int32) (l4 : Int32) (l5 : Nat) (l6 : Int32) (l7 : Int32) (l8 : Int32) (S : gk_S) (r : (Unit × gk_S)), k39 l0 l1 l2 l3 l4 l5 l6 l7 l8 S = some r → EvW X m_X7_addMet 3 0 0 39 [some (.ref l0), some (.ref l1), some (.int l2), some (.int l3), some (.int l4), some (.ref l5), some (.int l6), some (.int l7), some (.int l8)] [] S (qRU r)) {l0 : Nat} {l1 : Nat} {l2 : Int32} {l3 : Int32} {l4 : Int32} {l5 : Nat} {l6 : Int32} {l8 : Int32} {s0 : Int32} {S : gk_S} {r : (Unit × gk_S)} (h0 : f_X7_addMet_64 F k39 l0 l1 l2 l3 l4 l5 l6 l8 s0 S = some r) : EvW X m_X7_addMet 3 0 0 64 [some (.ref l0), some (.ref l1), some (.int l2), some (.int l3), some (.int l4), some (.ref l5), some (.int l6), none, some (.int l8)] [.int s0] S (qRU r) := by
  unfold f_X7_addMet_64 at h0
  refine ev_istore (pc := 64) (L' := [some (.ref l0), some (.ref l1), some (.int l2), some (.int l3), some (.int l4), some (.ref l5), some (.int l6), some (.int s0), some (.int l8)]) (i := 7) (by decide) rfl rfl dX7_addMet_64 ?_
  refine ev_aload_n (pc := 66) (i := 0) rfl rfl rfl dX7_addMet_66 ?_
  obtain ⟨g44, h45⟩ := qk_el h0; clear h0
  obtain ⟨b46, e47, h48⟩ := qP_el h45; clear h45
  refine xv_getP (pc := 67) fn_504 (isb_el g44) e47 gw_169 dX7_addMet_67 ?_
  refine ev_iload (pc := 70) (i := 8) rfl dX7_addMet_70 ?_
  refine ev_dup2 (pc := 72) rfl dX7_addMet_72 ?_
  obtain ⟨g49, h50⟩ := qk_el h48; clear h48
  obtain ⟨g51, h52⟩ := qk_el h50; clear h50
  obtain ⟨x53, e54, h55⟩ := qv_el h52; clear h52
  refine yv_iald (pc := 73) (isb_el g49) (inb_el g51) e54 dX7_addMet_73 ?_
  refine ev_iload (pc := 74) (i := 7) rfl dX7_addMet_74 ?_
  refine ev_if_eq (pc := 76) (tgt := 84) (by decide) dX7_addMet_76 (fun c56 => ?_) (fun c56 => ?_)
  · replace h55 := qi_t h55 c56
    refine ev_iconst (pc := 84) (v := 0) (by decide) dX7_addMet_84 ?_
    exact ev_weak (qL_s (qL_s (qL_s (qL_s (qL_s (qL_s (qL_s (qL_s (qL_s qL_nil))))))))) (e_X7_addMet_85 hk39 h55)
  · replace h55 := qi_f h55 c56
    refine ev_iload (pc := 79) (i := 6) rfl dX7_addMet_79 ?_
    refine ev_goto (pc := 81) (tgt := 85) (by decide) dX7_addMet_81 ?_
    exact ev_weak (qL_s (qL_s (qL_s (qL_s (qL_s (qL_s (qL_s (qL_s (qL_s qL_nil))))))))) (e_X7_addMet_85 hk39 h55)
theorem e_X7_addMet_39 {X : gk_X} {F : Nat} {k3 : Nat → Nat → Int32 → Int32 → Int32 → gk_S → Option (Unit × gk_S)} (hk3 : ∀ (l0 : Nat) (l1 : Nat) (l2 : Int32) (l3 : Int32) (l4 : Int32) (S : gk_S) (r : (Unit × gk_S)), k3 l0 l1 l2 l3 l4 S = some r → EvW X m_X7_addMet 3 0 0 3 [some (.ref l0), some (.ref l1), some (.int l2), some (.int l3), some (.int l4), none, none, none, none] [] S (qRU r)) : ∀ (n : Nat) (l0 : Nat) (l1 : Nat) (l2 : Int32) (l3 : Int32) (l4 : Int32) (l5 : Nat) (l6 : Int32) (l7 : Int32) (l8 : Int32) (S : gk_S) (r : (Unit × gk_S)), f_X7_addMet_39 F k3 n l0 l1 l2 l3 l4 l5 l6 l7 l8 S = some r → EvW X m_X7_addMet 3 0 0 39 [some (.ref l0), some (.ref l1), some (.int l2), some (.int l3), some (.int l4), some (.ref l5), some (.int l6), some (.int l7), some (.int l8)] [] S (qRU r) := by
  intro n
  induction n with
  | zero => intro l0 l1 l2 l3 l4 l5 l6 l7 l8 S r h0; rw [f_X7_addMet_39] at h0; cases h0
  | succ n ih =>
    intro l0 l1 l2 l3 l4 l5 l6 l7 l8 S r h0; rw [f_X7_addMet_39] at h0
    refine ev_iload (pc := 39) (i := 8) rfl dX7_addMet_39 ?_
    refine ev_if_lt (pc := 41) (tgt := 103) (by decide) dX7_addMet_41 (fun c14 => ?_) (fun c14 => ?_)
    · replace h0 := qi_t h0 c14
      refine ev_aload (pc := 103) (i := 5) rfl rfl dX7_addMet_103 ?_
      obtain ⟨g16, h17⟩ := qk_el h0; clear h0
      obtain ⟨x18, e19, h20⟩ := qv_el h17; clear h17
      refine xv_getIv (pc := 105) fn_303 (isb_el g16) e19 gw_75 dX7_addMet_105 ?_
      refine ev_istore (pc := 108) (L' := [some (.ref l0), some (.ref l1), some (.int l2), some (.int l3), some (.int l4), some (.ref l5), some (.int l6), some (.int l7), some (.int x18)]) (i := 8) (by decide) rfl rfl dX7_addMet_108 ?_
      refine ev_iload (pc := 110) (i := 8) rfl dX7_addMet_110 ?_
      refine ev_if_lt (pc := 112) (tgt := 133) (by decide) dX7_addMet_112 (fun c21 => ?_) (fun c21 => ?_)
      · replace h20 := qi_t h20 c21
        refine ev_iinc (pc := 133) (L' := [some (.ref l0), some (.ref l1), some (.int l2), some (.int l3), some (.int (l4 + 1)), some (.ref l5), some (.int l6), some (.int l7), some (.int x18)]) (i := 4) (v := (l4 + 1)) rfl rfl (by decide) rfl rfl dX7_addMet_133 ?_
        refine ev_goto (pc := 136) (tgt := 3) (by decide) dX7_addMet_136 ?_
        exact ev_weak (qL_s (qL_s (qL_s (qL_s (qL_s (qL_n (qL_n (qL_n (qL_n qL_nil))))))))) (hk3 _ _ _ _ _ _ _ h20)
      · replace h20 := qi_f h20 c21
        refine ev_iload (pc := 115) (i := 8) rfl dX7_addMet_115 ?_
        refine ev_iconst (pc := 117) (v := 3) (by decide) dX7_addMet_117 ?_
        refine ev_ic_ge (pc := 118) (tgt := 133) (by decide) dX7_addMet_118 (fun c23 => ?_) (fun c23 => ?_)
        · replace h20 := qi_t h20 c23
          refine ev_iinc (pc := 133) (L' := [some (.ref l0), some (.ref l1), some (.int l2), some (.int l3), some (.int (l4 + 1)), some (.ref l5), some (.int l6), some (.int l7), some (.int x18)]) (i := 4) (v := (l4 + 1)) rfl rfl (by decide) rfl rfl dX7_addMet_133 ?_
          refine ev_goto (pc := 136) (tgt := 3) (by decide) dX7_addMet_136 ?_
          exact ev_weak (qL_s (qL_s (qL_s (qL_s (qL_s (qL_n (qL_n (qL_n (qL_n qL_nil))))))))) (hk3 _ _ _ _ _ _ _ h20)
        · replace h20 := qi_f h20 c23
          refine ev_aload_n (pc := 121) (i := 0) rfl rfl rfl dX7_addMet_121 ?_
          obtain ⟨g25, h26⟩ := qk_el h20; clear h20
          obtain ⟨b27, e28, h29⟩ := qP_el h26; clear h26
          refine xv_getP (pc := 122) fn_505 (isb_el g25) e28 gw_170 dX7_addMet_122 ?_
          refine ev_iload (pc := 125) (i := 8) rfl dX7_addMet_125 ?_
          refine ev_dup2 (pc := 127) rfl dX7_addMet_127 ?_
          obtain ⟨g30, h31⟩ := qk_el h29; clear h29
          obtain ⟨g32, h33⟩ := qk_el h31; clear h31
          obtain ⟨x34, e35, h36⟩ := qv_el h33; clear h33
          refine yv_iald (pc := 128) (isb_el g30) (inb_el g32) e35 dX7_addMet_128 ?_
          refine ev_iload (pc := 129) (i := 6) rfl dX7_addMet_129 ?_
          refine ev_ior (pc := 131)  dX7_addMet_131 ?_
          obtain ⟨g37, h38⟩ := qk_el h36; clear h36
          obtain ⟨S39, e40, h41⟩ := qv_el h38; clear h38
          refine yv_iast (pc := 132) (isb_el g30) (inb_el g37) e40 dX7_addMet_132 ?_
          refine ev_iinc (pc := 133) (L' := [some (.ref l0), some (.ref l1), some (.int l2), some (.int l3), some (.int (l4 + 1)), some (.ref l5), some (.int l6), some (.int l7), some (.int x18)]) (i := 4) (v := (l4 + 1)) rfl rfl (by decide) rfl rfl dX7_addMet_133 ?_
          refine ev_goto (pc := 136) (tgt := 3) (by decide) dX7_addMet_136 ?_
          exact ev_weak (qL_s (qL_s (qL_s (qL_s (qL_s (qL_n (qL_n (qL_n (qL_n qL_nil))))))))) (hk3 _ _ _ _ _ _ _ h41)
    · replace h0 := qi_f h0 c14
      refine ev_iload (pc := 44) (i := 7) rfl dX7_addMet_44 ?_
      refine ev_if_eq (pc := 46) (tgt := 63) (by decide) dX7_addMet_46 (fun c42 => ?_) (fun c42 => ?_)
      · replace h0 := qi_t h0 c42
        refine ev_iconst (pc := 63) (v := 0) (by decide) dX7_addMet_63 ?_
        exact ev_weak (qL_s (qL_s (qL_s (qL_s (qL_s (qL_s (qL_s (qL_n (qL_s qL_nil))))))))) (e_X7_addMet_64 ih h0)
      · replace h0 := qi_f h0 c42
        refine ev_aload (pc := 49) (i := 5) rfl rfl dX7_addMet_49 ?_
        refine ev_iload (pc := 51) (i := 8) rfl dX7_addMet_51 ?_
        obtain ⟨g71, h72⟩ := qk_el h0; clear h0
        obtain ⟨x73, S74, e75, h76⟩ := qc_el h72; clear h72
        refine xv_callV (pc := 53) (st := []) (as := [.int l8]) (v := (some (.int x73))) (S' := S74) ok_X5_isWhole (e_X5_isWhole e75) (isb_el g71) (by decide) rfl (Nat.le_of_ble_eq_true rfl) rfl gw_842 dX7_addMet_53 ?_
        refine ev_if_eq (pc := 56) (tgt := 63) (by decide) dX7_addMet_56 (fun c77 => ?_) (fun c77 => ?_)
        · replace h76 := qi_t h76 c77
          refine ev_iconst (pc := 63) (v := 0) (by decide) dX7_addMet_63 ?_
          exact ev_weak (qL_s (qL_s (qL_s (qL_s (qL_s (qL_s (qL_s (qL_n (qL_s qL_nil))))))))) (e_X7_addMet_64 ih h76)
        · replace h76 := qi_f h76 c77
          refine ev_iconst (pc := 59) (v := 1) (by decide) dX7_addMet_59 ?_
          refine ev_goto (pc := 60) (tgt := 64) (by decide) dX7_addMet_60 ?_
          exact ev_weak (qL_s (qL_s (qL_s (qL_s (qL_s (qL_s (qL_s (qL_n (qL_s qL_nil))))))))) (e_X7_addMet_64 ih h76)
theorem e_X7_addMet_3 {X : gk_X} {F : Nat} : ∀ (n : Nat) (l0 : Nat) (l1 : Nat) (l2 : Int32) (l3 : Int32) (l4 : Int32) (S : gk_S) (r : (Unit × gk_S)), f_X7_addMet_3 F n l0 l1 l2 l3 l4 S = some r → EvW X m_X7_addMet 3 0 0 3 [some (.ref l0), some (.ref l1), some (.int l2), some (.int l3), some (.int l4), none, none, none, none] [] S (qRU r) := by
  intro n
  induction n with
  | zero => intro l0 l1 l2 l3 l4 S r h0; rw [f_X7_addMet_3] at h0; cases h0
  | succ n ih =>
    intro l0 l1 l2 l3 l4 S r h0; rw [f_X7_addMet_3] at h0
    refine ev_iload (pc := 3) (i := 4) rfl dX7_addMet_3 ?_
    refine ev_iload_n (pc := 5) (i := 2) rfl rfl dX7_addMet_5 ?_
    refine ev_ic_ge (pc := 6) (tgt := 139) (by decide) dX7_addMet_6 (fun c1 => ?_) (fun c1 => ?_)
    · replace h0 := qi_t h0 c1
      exact ev_return (pc := 139) rfl (qRU_eq h0) dX7_addMet_139
    · replace h0 := qi_f h0 c1
      refine ev_iload (pc := 9) (i := 4) rfl dX7_addMet_9 ?_
      refine ev_bipush (pc := 11) (v := 16) (by decide) dX7_addMet_11 ?_
      refine ev_ic_ge (pc := 13) (tgt := 139) (by decide) dX7_addMet_13 (fun c3 => ?_) (fun c3 => ?_)
      · replace h0 := qi_t h0 c3
        exact ev_return (pc := 139) rfl (qRU_eq h0) dX7_addMet_139
      · replace h0 := qi_f h0 c3
        refine ev_aload_n (pc := 16) (i := 1) rfl rfl rfl dX7_addMet_16 ?_
        refine ev_iload (pc := 17) (i := 4) rfl dX7_addMet_17 ?_
        obtain ⟨g5, h6⟩ := qk_el h0; clear h0
        obtain ⟨x7, S8, e9, h10⟩ := qc_el h6; clear h6
        refine xv_callV (pc := 19) (st := []) (as := [.int l4]) (v := (some (.ref x7))) (S' := S8) ok_X6_at (e_X6_at e9) (isb_el g5) (by decide) rfl (Nat.le_of_ble_eq_true rfl) rfl gw_828 dX7_addMet_19 ?_
        refine ev_astore (pc := 22) (L' := [some (.ref l0), some (.ref l1), some (.int l2), some (.int l3), some (.int l4), some (.ref x7), none, none, none]) (i := 5) (by decide) rfl rfl rfl dX7_addMet_22 ?_
        refine ev_iconst (pc := 24) (v := 1) (by decide) dX7_addMet_24 ?_
        refine ev_iload (pc := 25) (i := 4) rfl dX7_addMet_25 ?_
        refine ev_iload_n (pc := 27) (i := 3) rfl rfl dX7_addMet_27 ?_
        refine ev_iadd (pc := 28)  dX7_addMet_28 ?_
        refine ev_ishl (pc := 29)  dX7_addMet_29 ?_
        obtain ⟨x11, e12, h13⟩ := qv_el h10; clear h10
        refine xv_top e12 ?_
        refine ev_istore (pc := 30) (L' := [some (.ref l0), some (.ref l1), some (.int l2), some (.int l3), some (.int l4), some (.ref x7), some (.int x11), none, none]) (i := 6) (by decide) rfl rfl dX7_addMet_30 ?_
        refine ev_iconst (pc := 32) (v := 1) (by decide) dX7_addMet_32 ?_
        refine ev_istore (pc := 33) (L' := [some (.ref l0), some (.ref l1), some (.int l2), some (.int l3), some (.int l4), some (.ref x7), some (.int x11), some (.int 1), none]) (i := 7) (by decide) rfl rfl dX7_addMet_33 ?_
        refine ev_bipush (pc := 35) (v := 6) (by decide) dX7_addMet_35 ?_
        refine ev_istore (pc := 37) (L' := [some (.ref l0), some (.ref l1), some (.int l2), some (.int l3), some (.int l4), some (.ref x7), some (.int x11), some (.int 1), some (.int 6)]) (i := 8) (by decide) rfl rfl dX7_addMet_37 ?_
        exact ev_weak (qL_s (qL_s (qL_s (qL_s (qL_s (qL_s (qL_s (qL_s (qL_s qL_nil))))))))) (e_X7_addMet_39 ih F _ _ _ _ _ _ _ _ _ _ _ h13)
theorem e_X7_addMet {X : gk_X} {F : Nat} {S : gk_S} {a : Nat} {p0 : Nat} {p1 : Int32} {p2 : Int32} {r : (Unit × gk_S)} (h0 : f_X7_addMet F S a p0 p1 p2 = some r) : EvM X m_X7_addMet 3 0 0 [.ref a, .ref p0, .int p1, .int p2] S (qRU r) := by
  unfold f_X7_addMet at h0
  refine ev_method (by decide +kernel) rfl rfl (Nat.le_of_ble_eq_true rfl) ?_
  show EvW X m_X7_addMet 3 0 0 0 [some (.ref a), some (.ref p0), some (.int p1), some (.int p2), none, none, none, none, none] [] S _
  refine ev_iconst (pc := 0) (v := 0) (by decide) dX7_addMet_0 ?_
  refine ev_istore (pc := 1) (L' := [some (.ref a), some (.ref p0), some (.int p1), some (.int p2), some (.int 0), none, none, none, none]) (i := 4) (by decide) rfl rfl dX7_addMet_1 ?_
  exact ev_weak (qL_s (qL_s (qL_s (qL_s (qL_s (qL_n (qL_n (qL_n (qL_n qL_nil))))))))) (e_X7_addMet_3 F _ _ _ _ _ _ _ h0)
theorem dX5_isSameAs_0 : decode cX5_isSameAs 0 = .ok (.iconst 0, 1) := by decide +kernel
theorem dX5_isSameAs_1 : decode cX5_isSameAs 1 = .ok (.istore_n 2, 1) := by decide +kernel
theorem dX5_isSameAs_2 : decode cX5_isSameAs 2 = .ok (.iload_n 2, 1) := by decide +kernel
theorem dX5_isSameAs_3 : decode cX5_isSameAs 3 = .ok (.bipush 6, 2) := by decide +kernel
theorem dX5_isSameAs_5 : decode cX5_isSameAs 5 = .ok (.if_icmp .ge 43, 3) := by decide +kernel
theorem dX5_isSameAs_8 : decode cX5_isSameAs 8 = .ok (.aload_n 0, 1) := by decide +kernel
theorem dX5_isSameAs_9 : decode cX5_isSameAs 9 = .ok (.getfield 9, 3) := by decide +kernel
theorem dX5_isSameAs_12 : decode cX5_isSameAs 12 = .ok (.iload_n 2, 1) := by decide +kernel
theorem dX5_isSameAs_13 : decode cX5_isSameAs 13 = .ok (.laload, 1) := by decide +kernel
theorem dX5_isSameAs_14 : decode cX5_isSameAs 14 = .ok (.aload_n 1, 1) := by decide +kernel
theorem dX5_isSameAs_15 : decode cX5_isSameAs 15 = .ok (.getfield 9, 3) := by decide +kernel
theorem dX5_isSameAs_18 : decode cX5_isSameAs 18 = .ok (.iload_n 2, 1) := by decide +kernel
theorem dX5_isSameAs_19 : decode cX5_isSameAs 19 = .ok (.laload, 1) := by decide +kernel
theorem dX5_isSameAs_20 : decode cX5_isSameAs 20 = .ok (.lcmp, 1) := by decide +kernel
theorem dX5_isSameAs_21 : decode cX5_isSameAs 21 = .ok (.ifCond .ne 19, 3) := by decide +kernel
theorem dX5_isSameAs_24 : decode cX5_isSameAs 24 = .ok (.aload_n 0, 1) := by decide +kernel
theorem dX5_isSameAs_25 : decode cX5_isSameAs 25 = .ok (.getfield 15, 3) := by decide +kernel
theorem dX5_isSameAs_28 : decode cX5_isSameAs 28 = .ok (.iload_n 2, 1) := by decide +kernel
theorem dX5_isSameAs_29 : decode cX5_isSameAs 29 = .ok (.laload, 1) := by decide +kernel
theorem dX5_isSameAs_30 : decode cX5_isSameAs 30 = .ok (.aload_n 1, 1) := by decide +kernel
theorem dX5_isSameAs_31 : decode cX5_isSameAs 31 = .ok (.getfield 15, 3) := by decide +kernel
theorem dX5_isSameAs_34 : decode cX5_isSameAs 34 = .ok (.iload_n 2, 1) := by decide +kernel
theorem dX5_isSameAs_35 : decode cX5_isSameAs 35 = .ok (.laload, 1) := by decide +kernel
theorem dX5_isSameAs_36 : decode cX5_isSameAs 36 = .ok (.lcmp, 1) := by decide +kernel
theorem dX5_isSameAs_37 : decode cX5_isSameAs 37 = .ok (.ifCond .eq 5, 3) := by decide +kernel
theorem dX5_isSameAs_40 : decode cX5_isSameAs 40 = .ok (.iconst 0, 1) := by decide +kernel
theorem dX5_isSameAs_41 : decode cX5_isSameAs 41 = .ok (.ireturn, 1) := by decide +kernel
theorem dX5_isSameAs_42 : decode cX5_isSameAs 42 = .ok (.iinc 2 1, 3) := by decide +kernel
theorem dX5_isSameAs_45 : decode cX5_isSameAs 45 = .ok (.goto (-43), 3) := by decide +kernel
theorem dX5_isSameAs_48 : decode cX5_isSameAs 48 = .ok (.aload_n 0, 1) := by decide +kernel
theorem dX5_isSameAs_49 : decode cX5_isSameAs 49 = .ok (.getfield 18, 3) := by decide +kernel
theorem dX5_isSameAs_52 : decode cX5_isSameAs 52 = .ok (.aload_n 1, 1) := by decide +kernel
theorem dX5_isSameAs_53 : decode cX5_isSameAs 53 = .ok (.getfield 18, 3) := by decide +kernel
theorem dX5_isSameAs_56 : decode cX5_isSameAs 56 = .ok (.if_icmp .ne 18, 3) := by decide +kernel
theorem dX5_isSameAs_59 : decode cX5_isSameAs 59 = .ok (.aload_n 0, 1) := by decide +kernel
theorem dX5_isSameAs_60 : decode cX5_isSameAs 60 = .ok (.getfield 22, 3) := by decide +kernel
theorem dX5_isSameAs_63 : decode cX5_isSameAs 63 = .ok (.aload_n 1, 1) := by decide +kernel
theorem dX5_isSameAs_64 : decode cX5_isSameAs 64 = .ok (.getfield 22, 3) := by decide +kernel
theorem dX5_isSameAs_67 : decode cX5_isSameAs 67 = .ok (.if_icmp .ne 7, 3) := by decide +kernel
theorem dX5_isSameAs_70 : decode cX5_isSameAs 70 = .ok (.iconst 1, 1) := by decide +kernel
theorem dX5_isSameAs_71 : decode cX5_isSameAs 71 = .ok (.goto 4, 3) := by decide +kernel
theorem dX5_isSameAs_74 : decode cX5_isSameAs 74 = .ok (.iconst 0, 1) := by decide +kernel
theorem dX5_isSameAs_75 : decode cX5_isSameAs 75 = .ok (.ireturn, 1) := by decide +kernel
theorem e_X5_isSameAs_2 {X : gk_X} {F : Nat} : ∀ (n : Nat) (l0 : Nat) (l1 : Nat) (l2 : Int32) (S : gk_S) (r : (Int32 × gk_S)), f_X5_isSameAs_2 F n l0 l1 l2 S = some r → EvW X m_X5_isSameAs 1 0 0 2 [some (.ref l0), some (.ref l1), some (.int l2)] [] S (qRI r) := by
  intro n
  induction n with
  | zero => intro l0 l1 l2 S r h0; rw [f_X5_isSameAs_2] at h0; cases h0
  | succ n ih =>
    intro l0 l1 l2 S r h0; rw [f_X5_isSameAs_2] at h0
    refine ev_iload_n (pc := 2) (i := 2) rfl rfl dX5_isSameAs_2 ?_
    refine ev_bipush (pc := 3) (v := 6) (by decide) dX5_isSameAs_3 ?_
    refine ev_ic_ge (pc := 5) (tgt := 48) (by decide) dX5_isSameAs_5 (fun c1 => ?_) (fun c1 => ?_)
    · replace h0 := qi_t h0 c1
      refine ev_aload_n (pc := 48) (i := 0) rfl rfl rfl dX5_isSameAs_48 ?_
      obtain ⟨g3, h4⟩ := qk_el h0; clear h0
      obtain ⟨x5, e6, h7⟩ := qv_el h4; clear h4
      refine xv_getIv (pc := 49) fn_302 (isb_el g3) e6 gw_70 dX5_isSameAs_49 ?_
      refine ev_aload_n (pc := 52) (i := 1) rfl rfl rfl dX5_isSameAs_52 ?_
      obtain ⟨g8, h9⟩ := qk_el h7; clear h7
      obtain ⟨x10, e11, h12⟩ := qv_el h9; clear h9
      refine xv_getIv (pc := 53) fn_302 (isb_el g8) e11 gw_70 dX5_isSameAs_53 ?_
      refine ev_ic_ne (pc := 56) (tgt := 74) (by decide) dX5_isSameAs_56 (fun c13 => ?_) (fun c13 => ?_)
      · replace h12 := qi_f h12 c13
        refine ev_iconst (pc := 74) (v := 0) (by decide) dX5_isSameAs_74 ?_
        exact ev_ireturn (pc := 75) rfl rfl (qRI_eq h12) dX5_isSameAs_75
      · replace h12 := qi_t h12 c13
        refine ev_aload_n (pc := 59) (i := 0) rfl rfl rfl dX5_isSameAs_59 ?_
        obtain ⟨x15, e16, h17⟩ := qv_el h12; clear h12
        refine xv_getIv (pc := 60) fn_303 (isb_el g3) e16 gw_72 dX5_isSameAs_60 ?_
        refine ev_aload_n (pc := 63) (i := 1) rfl rfl rfl dX5_isSameAs_63 ?_
        obtain ⟨x18, e19, h20⟩ := qv_el h17; clear h17
        refine xv_getIv (pc := 64) fn_303 (isb_el g8) e19 gw_72 dX5_isSameAs_64 ?_
        refine ev_ic_ne (pc := 67) (tgt := 74) (by decide) dX5_isSameAs_67 (fun c21 => ?_) (fun c21 => ?_)
        · replace h20 := qi_f h20 c21
          refine ev_iconst (pc := 74) (v := 0) (by decide) dX5_isSameAs_74 ?_
          exact ev_ireturn (pc := 75) rfl rfl (qRI_eq h20) dX5_isSameAs_75
        · replace h20 := qi_t h20 c21
          refine ev_iconst (pc := 70) (v := 1) (by decide) dX5_isSameAs_70 ?_
          refine ev_goto (pc := 71) (tgt := 75) (by decide) dX5_isSameAs_71 ?_
          exact ev_ireturn (pc := 75) rfl rfl (qRI_eq h20) dX5_isSameAs_75
    · replace h0 := qi_f h0 c1
      refine ev_aload_n (pc := 8) (i := 0) rfl rfl rfl dX5_isSameAs_8 ?_
      obtain ⟨g23, h24⟩ := qk_el h0; clear h0
      obtain ⟨b25, e26, h27⟩ := qP_el h24; clear h24
      refine xv_getP (pc := 9) fn_300 (isb_el g23) e26 gw_64 dX5_isSameAs_9 ?_
      refine ev_iload_n (pc := 12) (i := 2) rfl rfl dX5_isSameAs_12 ?_
      obtain ⟨g28, h29⟩ := qk_el h27; clear h27
      obtain ⟨g30, h31⟩ := qk_el h29; clear h29
      obtain ⟨x32, e33, h34⟩ := qv_el h31; clear h31
      refine yv_lald (pc := 13) (isb_el g28) (inb_el g30) e33 dX5_isSameAs_13 ?_
      refine ev_aload_n (pc := 14) (i := 1) rfl rfl rfl dX5_isSameAs_14 ?_
      obtain ⟨g35, h36⟩ := qk_el h34; clear h34
      obtain ⟨b37, e38, h39⟩ := qP_el h36; clear h36
      refine xv_getP (pc := 15) fn_300 (isb_el g35) e38 gw_64 dX5_isSameAs_15 ?_
      refine ev_iload_n (pc := 18) (i := 2) rfl rfl dX5_isSameAs_18 ?_
      obtain ⟨g40, h41⟩ := qk_el h39; clear h39
      obtain ⟨g42, h43⟩ := qk_el h41; clear h41
      obtain ⟨x44, e45, h46⟩ := qv_el h43; clear h43
      refine yv_lald (pc := 19) (isb_el g40) (inb_el g42) e45 dX5_isSameAs_19 ?_
      refine ev_lcmp (pc := 20)  dX5_isSameAs_20 ?_
      refine ev_if_ne (pc := 21) (tgt := 40) (by decide) dX5_isSameAs_21 (fun c47 => ?_) (fun c47 => ?_)
      · replace h46 := qi_f h46 (lc_eqN c47)
        refine ev_iconst (pc := 40) (v := 0) (by decide) dX5_isSameAs_40 ?_
        exact ev_ireturn (pc := 41) rfl rfl (qRI_eq h46) dX5_isSameAs_41
      · replace h46 := qi_t h46 (lc_eq c47)
        refine ev_aload_n (pc := 24) (i := 0) rfl rfl rfl dX5_isSameAs_24 ?_
        obtain ⟨b49, e50, h51⟩ := qP_el h46; clear h46
        refine xv_getP (pc := 25) fn_301 (isb_el g23) e50 gw_67 dX5_isSameAs_25 ?_
        refine ev_iload_n (pc := 28) (i := 2) rfl rfl dX5_isSameAs_28 ?_
        obtain ⟨g52, h53⟩ := qk_el h51; clear h51
        obtain ⟨g54, h55⟩ := qk_el h53; clear h53
        obtain ⟨x56, e57, h58⟩ := qv_el h55; clear h55
        refine yv_lald (pc := 29) (isb_el g52) (inb_el g54) e57 dX5_isSameAs_29 ?_
        refine ev_aload_n (pc := 30) (i := 1) rfl rfl rfl dX5_isSameAs_30 ?_
        obtain ⟨b59, e60, h61⟩ := qP_el h58; clear h58
        refine xv_getP (pc := 31) fn_301 (isb_el g35) e60 gw_67 dX5_isSameAs_31 ?_
        refine ev_iload_n (pc := 34) (i := 2) rfl rfl dX5_isSameAs_34 ?_
        obtain ⟨g62, h63⟩ := qk_el h61; clear h61
        obtain ⟨g64, h65⟩ := qk_el h63; clear h63
        obtain ⟨x66, e67, h68⟩ := qv_el h65; clear h65
        refine yv_lald (pc := 35) (isb_el g62) (inb_el g64) e67 dX5_isSameAs_35 ?_
        refine ev_lcmp (pc := 36)  dX5_isSameAs_36 ?_
        refine ev_if_eq (pc := 37) (tgt := 42) (by decide) dX5_isSameAs_37 (fun c69 => ?_) (fun c69 => ?_)
        · replace h68 := qi_t h68 (lc_eq c69)
          refine ev_iinc (pc := 42) (L' := [some (.ref l0), some (.ref l1), some (.int (l2 + 1))]) (i := 2) (v := (l2 + 1)) rfl rfl (by decide) rfl rfl dX5_isSameAs_42 ?_
          refine ev_goto (pc := 45) (tgt := 2) (by decide) dX5_isSameAs_45 ?_
          exact (ev_weak (qL_s (qL_s (qL_s qL_nil))) (ih _ _ _ _ _ h68))
        · replace h68 := qi_f h68 (lc_eqN c69)
          refine ev_iconst (pc := 40) (v := 0) (by decide) dX5_isSameAs_40 ?_
          exact ev_ireturn (pc := 41) rfl rfl (qRI_eq h68) dX5_isSameAs_41
theorem e_X5_isSameAs {X : gk_X} {F : Nat} {S : gk_S} {a : Nat} {p0 : Nat} {r : (Int32 × gk_S)} (h0 : f_X5_isSameAs F S a p0 = some r) : EvM X m_X5_isSameAs 1 0 0 [.ref a, .ref p0] S (qRI r) := by
  unfold f_X5_isSameAs at h0
  refine ev_method (by decide +kernel) rfl rfl (Nat.le_of_ble_eq_true rfl) ?_
  show EvW X m_X5_isSameAs 1 0 0 0 [some (.ref a), some (.ref p0), none] [] S _
  refine ev_iconst (pc := 0) (v := 0) (by decide) dX5_isSameAs_0 ?_
  refine ev_istore_n (pc := 1) (L' := [some (.ref a), some (.ref p0), some (.int 0)]) (i := 2) rfl (by decide) rfl rfl dX5_isSameAs_1 ?_
  exact ev_weak (qL_s (qL_s (qL_s qL_nil))) (e_X5_isSameAs_2 F _ _ _ _ _ h0)
theorem dX7_prepare_0 : decode cX7_prepare 0 = .ok (.iconst 0, 1) := by decide +kernel
theorem dX7_prepare_1 : decode cX7_prepare 1 = .ok (.istore 5, 2) := by decide +kernel
theorem dX7_prepare_3 : decode cX7_prepare 3 = .ok (.iload 5, 2) := by decide +kernel
theorem dX7_prepare_5 : decode cX7_prepare 5 = .ok (.bipush 7, 2) := by decide +kernel
theorem dX7_prepare_7 : decode cX7_prepare 7 = .ok (.if_icmp .ge 35, 3) := by decide +kernel
theorem dX7_prepare_10 : decode cX7_prepare 10 = .ok (.aload_n 0, 1) := by decide +kernel
theorem dX7_prepare_11 : decode cX7_prepare 11 = .ok (.getfield 17, 3) := by decide +kernel
theorem dX7_prepare_14 : decode cX7_prepare 14 = .ok (.iload 5, 2) := by decide +kernel
theorem dX7_prepare_16 : decode cX7_prepare 16 = .ok (.aaload, 1) := by decide +kernel
theorem dX7_prepare_17 : decode cX7_prepare 17 = .ok (.iconst 0, 1) := by decide +kernel
theorem dX7_prepare_18 : decode cX7_prepare 18 = .ok (.lconst 0, 1) := by decide +kernel
theorem dX7_prepare_19 : decode cX7_prepare 19 = .ok (.lastore, 1) := by decide +kernel
theorem dX7_prepare_20 : decode cX7_prepare 20 = .ok (.aload_n 0, 1) := by decide +kernel
theorem dX7_prepare_21 : decode cX7_prepare 21 = .ok (.getfield 25, 3) := by decide +kernel
theorem dX7_prepare_24 : decode cX7_prepare 24 = .ok (.iload 5, 2) := by decide +kernel
theorem dX7_prepare_26 : decode cX7_prepare 26 = .ok (.iconst 1, 1) := by decide +kernel
theorem dX7_prepare_27 : decode cX7_prepare 27 = .ok (.iastore, 1) := by decide +kernel
theorem dX7_prepare_28 : decode cX7_prepare 28 = .ok (.aload_n 0, 1) := by decide +kernel
theorem dX7_prepare_29 : decode cX7_prepare 29 = .ok (.getfield 29, 3) := by decide +kernel
theorem dX7_prepare_32 : decode cX7_prepare 32 = .ok (.iload 5, 2) := by decide +kernel
theorem dX7_prepare_34 : decode cX7_prepare 34 = .ok (.iconst 0, 1) := by decide +kernel
theorem dX7_prepare_35 : decode cX7_prepare 35 = .ok (.iastore, 1) := by decide +kernel
theorem dX7_prepare_36 : decode cX7_prepare 36 = .ok (.iinc 5 1, 3) := by decide +kernel
theorem dX7_prepare_39 : decode cX7_prepare 39 = .ok (.goto (-36), 3) := by decide +kernel
theorem dX7_prepare_42 : decode cX7_prepare 42 = .ok (.aload_n 0, 1) := by decide +kernel
theorem dX7_prepare_43 : decode cX7_prepare 43 = .ok (.getfield 29, 3) := by decide +kernel
theorem dX7_prepare_46 : decode cX7_prepare 46 = .ok (.bipush 7, 2) := by decide +kernel
theorem dX7_prepare_48 : decode cX7_prepare 48 = .ok (.iconst (-1), 1) := by decide +kernel
theorem dX7_prepare_49 : decode cX7_prepare 49 = .ok (.iastore, 1) := by decide +kernel
theorem dX7_prepare_50 : decode cX7_prepare 50 = .ok (.iconst 0, 1) := by decide +kernel
theorem dX7_prepare_51 : decode cX7_prepare 51 = .ok (.istore 5, 2) := by decide +kernel
theorem dX7_prepare_53 : decode cX7_prepare 53 = .ok (.iload 5, 2) := by decide +kernel
theorem dX7_prepare_55 : decode cX7_prepare 55 = .ok (.iconst 3, 1) := by decide +kernel
theorem dX7_prepare_56 : decode cX7_prepare 56 = .ok (.if_icmp .ge 17, 3) := by decide +kernel
theorem dX7_prepare_59 : decode cX7_prepare 59 = .ok (.aload_n 0, 1) := by decide +kernel
theorem dX7_prepare_60 : decode cX7_prepare 60 = .ok (.getfield 32, 3) := by decide +kernel
theorem dX7_prepare_63 : decode cX7_prepare 63 = .ok (.iload 5, 2) := by decide +kernel
theorem dX7_prepare_65 : decode cX7_prepare 65 = .ok (.iconst 0, 1) := by decide +kernel
theorem dX7_prepare_66 : decode cX7_prepare 66 = .ok (.iastore, 1) := by decide +kernel
theorem dX7_prepare_67 : decode cX7_prepare 67 = .ok (.iinc 5 1, 3) := by decide +kernel
theorem dX7_prepare_70 : decode cX7_prepare 70 = .ok (.goto (-17), 3) := by decide +kernel
theorem dX7_prepare_73 : decode cX7_prepare 73 = .ok (.aload_n 0, 1) := by decide +kernel
theorem dX7_prepare_74 : decode cX7_prepare 74 = .ok (.aload_n 1, 1) := by decide +kernel
theorem dX7_prepare_75 : decode cX7_prepare 75 = .ok (.iload_n 2, 1) := by decide +kernel
theorem dX7_prepare_76 : decode cX7_prepare 76 = .ok (.invokevirtual 74, 3) := by decide +kernel
theorem dX7_prepare_79 : decode cX7_prepare 79 = .ok (.aload_n 0, 1) := by decide +kernel
theorem dX7_prepare_80 : decode cX7_prepare 80 = .ok (.aload_n 3, 1) := by decide +kernel
theorem dX7_prepare_81 : decode cX7_prepare 81 = .ok (.iload 4, 2) := by decide +kernel
theorem dX7_prepare_83 : decode cX7_prepare 83 = .ok (.invokevirtual 74, 3) := by decide +kernel
theorem dX7_prepare_86 : decode cX7_prepare 86 = .ok (.aload_n 0, 1) := by decide +kernel
theorem dX7_prepare_87 : decode cX7_prepare 87 = .ok (.invokevirtual 78, 3) := by decide +kernel
theorem dX7_prepare_90 : decode cX7_prepare 90 = .ok (.aload_n 0, 1) := by decide +kernel
theorem dX7_prepare_91 : decode cX7_prepare 91 = .ok (.aload_n 1, 1) := by decide +kernel
theorem dX7_prepare_92 : decode cX7_prepare 92 = .ok (.iload_n 2, 1) := by decide +kernel
theorem dX7_prepare_93 : decode cX7_prepare 93 = .ok (.iconst 0, 1) := by decide +kernel
theorem dX7_prepare_94 : decode cX7_prepare 94 = .ok (.invokevirtual 81, 3) := by decide +kernel
theorem dX7_prepare_97 : decode cX7_prepare 97 = .ok (.aload_n 0, 1) := by decide +kernel
theorem dX7_prepare_98 : decode cX7_prepare 98 = .ok (.aload_n 3, 1) := by decide +kernel
theorem dX7_prepare_99 : decode cX7_prepare 99 = .ok (.iload 4, 2) := by decide +kernel
theorem dX7_prepare_101 : decode cX7_prepare 101 = .ok (.bipush 16, 2) := by decide +kernel
theorem dX7_prepare_103 : decode cX7_prepare 103 = .ok (.invokevirtual 81, 3) := by decide +kernel
theorem dX7_prepare_106 : decode cX7_prepare 106 = .ok (.aload_n 0, 1) := by decide +kernel
theorem dX7_prepare_107 : decode cX7_prepare 107 = .ok (.iconst 0, 1) := by decide +kernel
theorem dX7_prepare_108 : decode cX7_prepare 108 = .ok (.putfield 35, 3) := by decide +kernel
theorem dX7_prepare_111 : decode cX7_prepare 111 = .ok (.iconst 0, 1) := by decide +kernel
theorem dX7_prepare_112 : decode cX7_prepare 112 = .ok (.istore 5, 2) := by decide +kernel
theorem dX7_prepare_114 : decode cX7_prepare 114 = .ok (.iload 5, 2) := by decide +kernel
theorem dX7_prepare_116 : decode cX7_prepare 116 = .ok (.iload_n 2, 1) := by decide +kernel
theorem dX7_prepare_117 : decode cX7_prepare 117 = .ok (.if_icmp .ge 51, 3) := by decide +kernel
theorem dX7_prepare_120 : decode cX7_prepare 120 = .ok (.iload 5, 2) := by decide +kernel
theorem dX7_prepare_122 : decode cX7_prepare 122 = .ok (.iload 4, 2) := by decide +kernel
theorem dX7_prepare_124 : decode cX7_prepare 124 = .ok (.if_icmp .ge 44, 3) := by decide +kernel
theorem dX7_prepare_127 : decode cX7_prepare 127 = .ok (.aload_n 0, 1) := by decide +kernel
theorem dX7_prepare_128 : decode cX7_prepare 128 = .ok (.dup, 1) := by decide +kernel
theorem dX7_prepare_129 : decode cX7_prepare 129 = .ok (.getfield 35, 3) := by decide +kernel
theorem dX7_prepare_132 : decode cX7_prepare 132 = .ok (.aload_n 1, 1) := by decide +kernel
theorem dX7_prepare_133 : decode cX7_prepare 133 = .ok (.iload 5, 2) := by decide +kernel
theorem dX7_prepare_135 : decode cX7_prepare 135 = .ok (.invokevirtual 85, 3) := by decide +kernel
theorem dX7_prepare_138 : decode cX7_prepare 138 = .ok (.aload_n 3, 1) := by decide +kernel
theorem dX7_prepare_139 : decode cX7_prepare 139 = .ok (.iload 5, 2) := by decide +kernel
theorem dX7_prepare_141 : decode cX7_prepare 141 = .ok (.invokevirtual 85, 3) := by decide +kernel
theorem dX7_prepare_144 : decode cX7_prepare 144 = .ok (.invokevirtual 89, 3) := by decide +kernel
theorem dX7_prepare_147 : decode cX7_prepare 147 = .ok (.ifCond .eq 10, 3) := by decide +kernel
theorem dX7_prepare_150 : decode cX7_prepare 150 = .ok (.iconst 1, 1) := by decide +kernel
theorem dX7_prepare_151 : decode cX7_prepare 151 = .ok (.iload 5, 2) := by decide +kernel
theorem dX7_prepare_153 : decode cX7_prepare 153 = .ok (.ishl, 1) := by decide +kernel
theorem dX7_prepare_154 : decode cX7_prepare 154 = .ok (.goto 4, 3) := by decide +kernel
theorem dX7_prepare_157 : decode cX7_prepare 157 = .ok (.iconst 0, 1) := by decide +kernel
theorem dX7_prepare_158 : decode cX7_prepare 158 = .ok (.ior, 1) := by decide +kernel
theorem dX7_prepare_159 : decode cX7_prepare 159 = .ok (.putfield 35, 3) := by decide +kernel
theorem dX7_prepare_162 : decode cX7_prepare 162 = .ok (.iinc 5 1, 3) := by decide +kernel
theorem dX7_prepare_165 : decode cX7_prepare 165 = .ok (.goto (-51), 3) := by decide +kernel
theorem dX7_prepare_168 : decode cX7_prepare 168 = .ok (.return_, 1) := by decide +kernel
theorem e_X7_prepare_114 {X : gk_X} {F : Nat} : ∀ (n : Nat) (l0 : Nat) (l1 : Nat) (l2 : Int32) (l3 : Nat) (l4 : Int32) (l5 : Int32) (S : gk_S) (r : (Unit × gk_S)), f_X7_prepare_114 F n l0 l1 l2 l3 l4 l5 S = some r → EvW X m_X7_prepare 4 0 0 114 [some (.ref l0), some (.ref l1), some (.int l2), some (.ref l3), some (.int l4), some (.int l5)] [] S (qRU r) := by
  intro n
  induction n with
  | zero => intro l0 l1 l2 l3 l4 l5 S r h0; rw [f_X7_prepare_114] at h0; cases h0
  | succ n ih =>
    intro l0 l1 l2 l3 l4 l5 S r h0; rw [f_X7_prepare_114] at h0
    refine ev_iload (pc := 114) (i := 5) rfl dX7_prepare_114 ?_
    refine ev_iload_n (pc := 116) (i := 2) rfl rfl dX7_prepare_116 ?_
    refine ev_ic_ge (pc := 117) (tgt := 168) (by decide) dX7_prepare_117 (fun c52 => ?_) (fun c52 => ?_)
    · replace h0 := qi_t h0 c52
      exact ev_return (pc := 168) rfl (qRU_eq h0) dX7_prepare_168
    · replace h0 := qi_f h0 c52
      refine ev_iload (pc := 120) (i := 5) rfl dX7_prepare_120 ?_
      refine ev_iload (pc := 122) (i := 4) rfl dX7_prepare_122 ?_
      refine ev_ic_ge (pc := 124) (tgt := 168) (by decide) dX7_prepare_124 (fun c54 => ?_) (fun c54 => ?_)
      · replace h0 := qi_t h0 c54
        exact ev_return (pc := 168) rfl (qRU_eq h0) dX7_prepare_168
      · replace h0 := qi_f h0 c54
        refine ev_aload_n (pc := 127) (i := 0) rfl rfl rfl dX7_prepare_127 ?_
        refine ev_dup (pc := 128) (.inr rfl) dX7_prepare_128 ?_
        obtain ⟨g56, h57⟩ := qk_el h0; clear h0
        obtain ⟨x58, e59, h60⟩ := qv_el h57; clear h57
        refine xv_getIv (pc := 129) fn_506 (isb_el g56) e59 gw_171 dX7_prepare_129 ?_
        refine ev_aload_n (pc := 132) (i := 1) rfl rfl rfl dX7_prepare_132 ?_
        refine ev_iload (pc := 133) (i := 5) rfl dX7_prepare_133 ?_
        obtain ⟨g61, h62⟩ := qk_el h60; clear h60
        obtain ⟨x63, S64, e65, h66⟩ := qc_el h62; clear h62
        refine xv_callV (pc := 135) (st := [.int x58, .ref l0]) (as := [.int l5]) (v := (some (.ref x63))) (S' := S64) ok_X6_at (e_X6_at e65) (isb_el g61) (by decide) rfl (Nat.le_of_ble_eq_true rfl) rfl gw_828 dX7_prepare_135 ?_
        refine ev_aload_n (pc := 138) (i := 3) rfl rfl rfl dX7_prepare_138 ?_
        refine ev_iload (pc := 139) (i := 5) rfl dX7_prepare_139 ?_
        obtain ⟨g67, h68⟩ := qk_el h66; clear h66
        obtain ⟨x69, S70, e71, h72⟩ := qc_el h68; clear h68
        refine xv_callV (pc := 141) (st := [.ref x63, .int x58, .ref l0]) (as := [.int l5]) (v := (some (.ref x69))) (S' := S70) ok_X6_at (e_X6_at e71) (isb_el g67) (by decide) rfl (Nat.le_of_ble_eq_true rfl) rfl gw_828 dX7_prepare_141 ?_
        obtain ⟨g73, h74⟩ := qk_el h72; clear h72
        obtain ⟨x75, S76, e77, h78⟩ := qc_el h74; clear h74
        refine xv_callV (pc := 144) (st := [.int x58, .ref l0]) (as := [.ref x69]) (v := (some (.int x75))) (S' := S76) ok_X5_isSameAs (e_X5_isSameAs e77) (isb_el g73) (by decide) rfl (Nat.le_of_ble_eq_true rfl) rfl gw_848 dX7_prepare_144 ?_
        refine ev_if_eq (pc := 147) (tgt := 157) (by decide) dX7_prepare_147 (fun c79 => ?_) (fun c79 => ?_)
        · replace h78 := qi_t h78 c79
          refine ev_iconst (pc := 157) (v := 0) (by decide) dX7_prepare_157 ?_
          refine ev_ior (pc := 158)  dX7_prepare_158 ?_
          obtain ⟨g81, h82⟩ := qk_el h78; clear h78
          obtain ⟨S83, e84, h85⟩ := qv_el h82; clear h82
          refine yv_putI (pc := 159) fn_506 ⟨rfl, rfl⟩ (isb_el g81) e84 gw_171 dX7_prepare_159 ?_
          refine ev_iinc (pc := 162) (L' := [some (.ref l0), some (.ref l1), some (.int l2), some (.ref l3), some (.int l4), some (.int (l5 + 1))]) (i := 5) (v := (l5 + 1)) rfl rfl (by decide) rfl rfl dX7_prepare_162 ?_
          refine ev_goto (pc := 165) (tgt := 114) (by decide) dX7_prepare_165 ?_
          exact (ev_weak (qL_s (qL_s (qL_s (qL_s (qL_s (qL_s qL_nil)))))) (ih _ _ _ _ _ _ _ _ h85))
        · replace h78 := qi_f h78 c79
          refine ev_iconst (pc := 150) (v := 1) (by decide) dX7_prepare_150 ?_
          refine ev_iload (pc := 151) (i := 5) rfl dX7_prepare_151 ?_
          refine ev_ishl (pc := 153)  dX7_prepare_153 ?_
          refine ev_goto (pc := 154) (tgt := 158) (by decide) dX7_prepare_154 ?_
          refine ev_ior (pc := 158)  dX7_prepare_158 ?_
          obtain ⟨g86, h87⟩ := qk_el h78; clear h78
          obtain ⟨S88, e89, h90⟩ := qv_el h87; clear h87
          refine yv_putI (pc := 159) fn_506 ⟨rfl, rfl⟩ (isb_el g86) e89 gw_171 dX7_prepare_159 ?_
          refine ev_iinc (pc := 162) (L' := [some (.ref l0), some (.ref l1), some (.int l2), some (.ref l3), some (.int l4), some (.int (l5 + 1))]) (i := 5) (v := (l5 + 1)) rfl rfl (by decide) rfl rfl dX7_prepare_162 ?_
          refine ev_goto (pc := 165) (tgt := 114) (by decide) dX7_prepare_165 ?_
          exact (ev_weak (qL_s (qL_s (qL_s (qL_s (qL_s (qL_s qL_nil)))))) (ih _ _ _ _ _ _ _ _ h90))
theorem e_X7_prepare_53 {X : gk_X} {F : Nat} : ∀ (n : Nat) (l0 : Nat) (l1 : Nat) (l2 : Int32) (l3 : Nat) (l4 : Int32) (l5 : Int32) (S : gk_S) (r : (Unit × gk_S)), f_X7_prepare_53 F n l0 l1 l2 l3 l4 l5 S = some r → EvW X m_X7_prepare 4 0 0 53 [some (.ref l0), some (.ref l1), some (.int l2), some (.ref l3), some (.int l4), some (.int l5)] [] S (qRU r) := by
  intro n
  induction n with
  | zero => intro l0 l1 l2 l3 l4 l5 S r h0; rw [f_X7_prepare_53] at h0; cases h0
  | succ n ih =>
    intro l0 l1 l2 l3 l4 l5 S r h0; rw [f_X7_prepare_53] at h0
    refine ev_iload (pc := 53) (i := 5) rfl dX7_prepare_53 ?_
    refine ev_iconst (pc := 55) (v := 3) (by decide) dX7_prepare_55 ?_
    refine ev_ic_ge (pc := 56) (tgt := 73) (by decide) dX7_prepare_56 (fun c15 => ?_) (fun c15 => ?_)
    · replace h0 := qi_t h0 c15
      refine ev_aload_n (pc := 73) (i := 0) rfl rfl rfl dX7_prepare_73 ?_
      refine ev_aload_n (pc := 74) (i := 1) rfl rfl rfl dX7_prepare_74 ?_
      refine ev_iload_n (pc := 75) (i := 2) rfl rfl dX7_prepare_75 ?_
      obtain ⟨g17, h18⟩ := qk_el h0; clear h0
      obtain ⟨x19, S20, e21, h22⟩ := qc_el h18; clear h18
      refine xv_callV (pc := 76) (st := []) (as := [.ref l1, .int l2]) (v := none) (S' := S20) ok_X7_addCuts (e_X7_addCuts e21) (isb_el g17) (by decide) rfl (Nat.le_of_ble_eq_true rfl) rfl gw_824 dX7_prepare_76 ?_
      refine ev_aload_n (pc := 79) (i := 0) rfl rfl rfl dX7_prepare_79 ?_
      refine ev_aload_n (pc := 80) (i := 3) rfl rfl rfl dX7_prepare_80 ?_
      refine ev_iload (pc := 81) (i := 4) rfl dX7_prepare_81 ?_
      obtain ⟨g23, h24⟩ := qk_el h22; clear h22
      obtain ⟨x25, S26, e27, h28⟩ := qc_el h24; clear h24
      refine xv_callV (pc := 83) (st := []) (as := [.ref l3, .int l4]) (v := none) (S' := S26) ok_X7_addCuts (e_X7_addCuts e27) (isb_el g23) (by decide) rfl (Nat.le_of_ble_eq_true rfl) rfl gw_824 dX7_prepare_83 ?_
      refine ev_aload_n (pc := 86) (i := 0) rfl rfl rfl dX7_prepare_86 ?_
      obtain ⟨g29, h30⟩ := qk_el h28; clear h28
      obtain ⟨x31, S32, e33, h34⟩ := qc_el h30; clear h30
      refine xv_callV (pc := 87) (st := []) (as := []) (v := none) (S' := S32) ok_X7_clearMet (e_X7_clearMet e33) (isb_el g29) (by decide) rfl (Nat.le_of_ble_eq_true rfl) rfl gw_834 dX7_prepare_87 ?_
      refine ev_aload_n (pc := 90) (i := 0) rfl rfl rfl dX7_prepare_90 ?_
      refine ev_aload_n (pc := 91) (i := 1) rfl rfl rfl dX7_prepare_91 ?_
      refine ev_iload_n (pc := 92) (i := 2) rfl rfl dX7_prepare_92 ?_
      refine ev_iconst (pc := 93) (v := 0) (by decide) dX7_prepare_93 ?_
      obtain ⟨g35, h36⟩ := qk_el h34; clear h34
      obtain ⟨x37, S38, e39, h40⟩ := qc_el h36; clear h36
      refine xv_callV (pc := 94) (st := []) (as := [.ref l1, .int l2, .int 0]) (v := none) (S' := S38) ok_X7_addMet (e_X7_addMet e39) (isb_el g35) (by decide) rfl (Nat.le_of_ble_eq_true rfl) rfl gw_838 dX7_prepare_94 ?_
      refine ev_aload_n (pc := 97) (i := 0) rfl rfl rfl dX7_prepare_97 ?_
      refine ev_aload_n (pc := 98) (i := 3) rfl rfl rfl dX7_prepare_98 ?_
      refine ev_iload (pc := 99) (i := 4) rfl dX7_prepare_99 ?_
      refine ev_bipush (pc := 101) (v := 16) (by decide) dX7_prepare_101 ?_
      obtain ⟨g41, h42⟩ := qk_el h40; clear h40
      obtain ⟨x43, S44, e45, h46⟩ := qc_el h42; clear h42
      refine xv_callV (pc := 103) (st := []) (as := [.ref l3, .int l4, .int 16]) (v := none) (S' := S44) ok_X7_addMet (e_X7_addMet e45) (isb_el g41) (by decide) rfl (Nat.le_of_ble_eq_true rfl) rfl gw_838 dX7_prepare_103 ?_
      refine ev_aload_n (pc := 106) (i := 0) rfl rfl rfl dX7_prepare_106 ?_
      refine ev_iconst (pc := 107) (v := 0) (by decide) dX7_prepare_107 ?_
      obtain ⟨g47, h48⟩ := qk_el h46; clear h46
      obtain ⟨S49, e50, h51⟩ := qv_el h48; clear h48
      refine yv_putI (pc := 108) fn_506 ⟨rfl, rfl⟩ (isb_el g47) e50 gw_171 dX7_prepare_108 ?_
      refine ev_iconst (pc := 111) (v := 0) (by decide) dX7_prepare_111 ?_
      refine ev_istore (pc := 112) (L' := [some (.ref l0), some (.ref l1), some (.int l2), some (.ref l3), some (.int l4), some (.int 0)]) (i := 5) (by decide) rfl rfl dX7_prepare_112 ?_
      exact ev_weak (qL_s (qL_s (qL_s (qL_s (qL_s (qL_s qL_nil)))))) (e_X7_prepare_114 F _ _ _ _ _ _ _ _ h51)
    · replace h0 := qi_f h0 c15
      refine ev_aload_n (pc := 59) (i := 0) rfl rfl rfl dX7_prepare_59 ?_
      obtain ⟨g91, h92⟩ := qk_el h0; clear h0
      obtain ⟨b93, e94, h95⟩ := qP_el h92; clear h92
      refine xv_getP (pc := 60) fn_505 (isb_el g91) e94 gw_170 dX7_prepare_60 ?_
      refine ev_iload (pc := 63) (i := 5) rfl dX7_prepare_63 ?_
      refine ev_iconst (pc := 65) (v := 0) (by decide) dX7_prepare_65 ?_
      obtain ⟨g96, h97⟩ := qk_el h95; clear h95
      obtain ⟨g98, h99⟩ := qk_el h97; clear h97
      obtain ⟨S100, e101, h102⟩ := qv_el h99; clear h99
      refine yv_iast (pc := 66) (isb_el g96) (inb_el g98) e101 dX7_prepare_66 ?_
      refine ev_iinc (pc := 67) (L' := [some (.ref l0), some (.ref l1), some (.int l2), some (.ref l3), some (.int l4), some (.int (l5 + 1))]) (i := 5) (v := (l5 + 1)) rfl rfl (by decide) rfl rfl dX7_prepare_67 ?_
      refine ev_goto (pc := 70) (tgt := 53) (by decide) dX7_prepare_70 ?_
      exact (ev_weak (qL_s (qL_s (qL_s (qL_s (qL_s (qL_s qL_nil)))))) (ih _ _ _ _ _ _ _ _ h102))
theorem e_X7_prepare_3 {X : gk_X} {F : Nat} : ∀ (n : Nat) (l0 : Nat) (l1 : Nat) (l2 : Int32) (l3 : Nat) (l4 : Int32) (l5 : Int32) (S : gk_S) (r : (Unit × gk_S)), f_X7_prepare_3 F n l0 l1 l2 l3 l4 l5 S = some r → EvW X m_X7_prepare 4 0 0 3 [some (.ref l0), some (.ref l1), some (.int l2), some (.ref l3), some (.int l4), some (.int l5)] [] S (qRU r) := by
  intro n
  induction n with
  | zero => intro l0 l1 l2 l3 l4 l5 S r h0; rw [f_X7_prepare_3] at h0; cases h0
  | succ n ih =>
    intro l0 l1 l2 l3 l4 l5 S r h0; rw [f_X7_prepare_3] at h0
    refine ev_iload (pc := 3) (i := 5) rfl dX7_prepare_3 ?_
    refine ev_bipush (pc := 5) (v := 7) (by decide) dX7_prepare_5 ?_
    refine ev_ic_ge (pc := 7) (tgt := 42) (by decide) dX7_prepare_7 (fun c1 => ?_) (fun c1 => ?_)
    · replace h0 := qi_t h0 c1
      refine ev_aload_n (pc := 42) (i := 0) rfl rfl rfl dX7_prepare_42 ?_
      obtain ⟨g3, h4⟩ := qk_el h0; clear h0
      obtain ⟨b5, e6, h7⟩ := qP_el h4; clear h4
      refine xv_getP (pc := 43) fn_504 (isb_el g3) e6 gw_169 dX7_prepare_43 ?_
      refine ev_bipush (pc := 46) (v := 7) (by decide) dX7_prepare_46 ?_
      refine ev_iconst (pc := 48) (v := -1) (by decide) dX7_prepare_48 ?_
      obtain ⟨g8, h9⟩ := qk_el h7; clear h7
      obtain ⟨g10, h11⟩ := qk_el h9; clear h9
      obtain ⟨S12, e13, h14⟩ := qv_el h11; clear h11
      refine yv_iast (pc := 49) (isb_el g8) (inb_el g10) e13 dX7_prepare_49 ?_
      refine ev_iconst (pc := 50) (v := 0) (by decide) dX7_prepare_50 ?_
      refine ev_istore (pc := 51) (L' := [some (.ref l0), some (.ref l1), some (.int l2), some (.ref l3), some (.int l4), some (.int 0)]) (i := 5) (by decide) rfl rfl dX7_prepare_51 ?_
      exact ev_weak (qL_s (qL_s (qL_s (qL_s (qL_s (qL_s qL_nil)))))) (e_X7_prepare_53 F _ _ _ _ _ _ _ _ h14)
    · replace h0 := qi_f h0 c1
      refine ev_aload_n (pc := 10) (i := 0) rfl rfl rfl dX7_prepare_10 ?_
      obtain ⟨g103, h104⟩ := qk_el h0; clear h0
      obtain ⟨b105, e106, h107⟩ := qP_el h104; clear h104
      refine xv_getP (pc := 11) fn_501 (isb_el g103) e106 gw_166 dX7_prepare_11 ?_
      refine ev_iload (pc := 14) (i := 5) rfl dX7_prepare_14 ?_
      obtain ⟨g108, h109⟩ := qk_el h107; clear h107
      obtain ⟨g110, h111⟩ := qk_el h109; clear h109
      obtain ⟨b112, e113, h114⟩ := qP_el h111; clear h111
      refine yv_aald (pc := 16) (isb_el g108) (by decide) (inb_el g110) e113 dX7_prepare_16 ?_
      refine ev_iconst (pc := 17) (v := 0) (by decide) dX7_prepare_17 ?_
      refine ev_lconst (pc := 18) (v := 0) (by decide) dX7_prepare_18 ?_
      obtain ⟨g115, h116⟩ := qk_el h114; clear h114
      obtain ⟨g117, h118⟩ := qk_el h116; clear h116
      obtain ⟨S119, e120, h121⟩ := qv_el h118; clear h118
      refine yv_last (pc := 19) (isb_el g115) (inb_el g117) e120 dX7_prepare_19 ?_
      refine ev_aload_n (pc := 20) (i := 0) rfl rfl rfl dX7_prepare_20 ?_
      obtain ⟨b122, e123, h124⟩ := qP_el h121; clear h121
      refine xv_getP (pc := 21) fn_503 (is_wJ (isb_el g103) e120) e123 gw_168 dX7_prepare_21 ?_
      refine ev_iload (pc := 24) (i := 5) rfl dX7_prepare_24 ?_
      refine ev_iconst (pc := 26) (v := 1) (by decide) dX7_prepare_26 ?_
      obtain ⟨g125, h126⟩ := qk_el h124; clear h124
      obtain ⟨g127, h128⟩ := qk_el h126; clear h126
      obtain ⟨S129, e130, h131⟩ := qv_el h128; clear h128
      refine yv_iast (pc := 27) (isb_el g125) (inb_el g127) e130 dX7_prepare_27 ?_
      refine ev_aload_n (pc := 28) (i := 0) rfl rfl rfl dX7_prepare_28 ?_
      obtain ⟨b132, e133, h134⟩ := qP_el h131; clear h131
      refine xv_getP (pc := 29) fn_504 (is_wI (is_wJ (isb_el g103) e120) e130) e133 gw_169 dX7_prepare_29 ?_
      refine ev_iload (pc := 32) (i := 5) rfl dX7_prepare_32 ?_
      refine ev_iconst (pc := 34) (v := 0) (by decide) dX7_prepare_34 ?_
      obtain ⟨g135, h136⟩ := qk_el h134; clear h134
      obtain ⟨g137, h138⟩ := qk_el h136; clear h136
      obtain ⟨S139, e140, h141⟩ := qv_el h138; clear h138
      refine yv_iast (pc := 35) (isb_el g135) (inb_el g137) e140 dX7_prepare_35 ?_
      refine ev_iinc (pc := 36) (L' := [some (.ref l0), some (.ref l1), some (.int l2), some (.ref l3), some (.int l4), some (.int (l5 + 1))]) (i := 5) (v := (l5 + 1)) rfl rfl (by decide) rfl rfl dX7_prepare_36 ?_
      refine ev_goto (pc := 39) (tgt := 3) (by decide) dX7_prepare_39 ?_
      exact (ev_weak (qL_s (qL_s (qL_s (qL_s (qL_s (qL_s qL_nil)))))) (ih _ _ _ _ _ _ _ _ h141))
theorem e_X7_prepare {X : gk_X} {F : Nat} {S : gk_S} {a : Nat} {p0 : Nat} {p1 : Int32} {p2 : Nat} {p3 : Int32} {r : (Unit × gk_S)} (h0 : f_X7_prepare F S a p0 p1 p2 p3 = some r) : EvM X m_X7_prepare 4 0 0 [.ref a, .ref p0, .int p1, .ref p2, .int p3] S (qRU r) := by
  unfold f_X7_prepare at h0
  refine ev_method (by decide +kernel) rfl rfl (Nat.le_of_ble_eq_true rfl) ?_
  show EvW X m_X7_prepare 4 0 0 0 [some (.ref a), some (.ref p0), some (.int p1), some (.ref p2), some (.int p3), none] [] S _
  refine ev_iconst (pc := 0) (v := 0) (by decide) dX7_prepare_0 ?_
  refine ev_istore (pc := 1) (L' := [some (.ref a), some (.ref p0), some (.int p1), some (.ref p2), some (.int p3), some (.int 0)]) (i := 5) (by decide) rfl rfl dX7_prepare_1 ?_
  exact ev_weak (qL_s (qL_s (qL_s (qL_s (qL_s (qL_s qL_nil)))))) (e_X7_prepare_3 F _ _ _ _ _ _ _ _ h0)
theorem dX7_bitsBelow_0 : decode cX7_bitsBelow 0 = .ok (.iconst 1, 1) := by decide +kernel
theorem dX7_bitsBelow_1 : decode cX7_bitsBelow 1 = .ok (.iload_n 0, 1) := by decide +kernel
theorem dX7_bitsBelow_2 : decode cX7_bitsBelow 2 = .ok (.ishl, 1) := by decide +kernel
theorem dX7_bitsBelow_3 : decode cX7_bitsBelow 3 = .ok (.iconst 1, 1) := by decide +kernel
theorem dX7_bitsBelow_4 : decode cX7_bitsBelow 4 = .ok (.isub, 1) := by decide +kernel
theorem dX7_bitsBelow_5 : decode cX7_bitsBelow 5 = .ok (.ireturn, 1) := by decide +kernel
theorem e_X7_bitsBelow {X : gk_X} {F : Nat} {S : gk_S} {p0 : Int32} {r : (Int32 × gk_S)} (h0 : f_X7_bitsBelow F S p0 = some r) : EvM X m_X7_bitsBelow 1 0 0 [.int p0] S (qRI r) := by
  unfold f_X7_bitsBelow at h0
  refine ev_method (by decide +kernel) rfl rfl (Nat.le_of_ble_eq_true rfl) ?_
  show EvW X m_X7_bitsBelow 1 0 0 0 [some (.int p0)] [] S _
  refine ev_iconst (pc := 0) (v := 1) (by decide) dX7_bitsBelow_0 ?_
  refine ev_iload_n (pc := 1) (i := 0) rfl rfl dX7_bitsBelow_1 ?_
  refine ev_ishl (pc := 2)  dX7_bitsBelow_2 ?_
  refine ev_iconst (pc := 3) (v := 1) (by decide) dX7_bitsBelow_3 ?_
  refine ev_isub (pc := 4)  dX7_bitsBelow_4 ?_
  exact ev_ireturn (pc := 5) rfl (nar_int _) (qRI_eq h0) dX7_bitsBelow_5
theorem dX7_side_0 : decode cX7_side 0 = .ok (.iload_n 0, 1) := by decide +kernel
theorem dX7_side_1 : decode cX7_side 1 = .ok (.iload_n 1, 1) := by decide +kernel
theorem dX7_side_2 : decode cX7_side 2 = .ok (.bipush 16, 2) := by decide +kernel
theorem dX7_side_4 : decode cX7_side 4 = .ok (.ishl, 1) := by decide +kernel
theorem dX7_side_5 : decode cX7_side 5 = .ok (.ior, 1) := by decide +kernel
theorem dX7_side_6 : decode cX7_side 6 = .ok (.ireturn, 1) := by decide +kernel
theorem e_X7_side {X : gk_X} {F : Nat} {S : gk_S} {p0 : Int32} {p1 : Int32} {r : (Int32 × gk_S)} (h0 : f_X7_side F S p0 p1 = some r) : EvM X m_X7_side 1 0 0 [.int p0, .int p1] S (qRI r) := by
  unfold f_X7_side at h0
  refine ev_method (by decide +kernel) rfl rfl (Nat.le_of_ble_eq_true rfl) ?_
  show EvW X m_X7_side 1 0 0 0 [some (.int p0), some (.int p1)] [] S _
  refine ev_iload_n (pc := 0) (i := 0) rfl rfl dX7_side_0 ?_
  refine ev_iload_n (pc := 1) (i := 1) rfl rfl dX7_side_1 ?_
  refine ev_bipush (pc := 2) (v := 16) (by decide) dX7_side_2 ?_
  refine ev_ishl (pc := 4)  dX7_side_4 ?_
  refine ev_ior (pc := 5)  dX7_side_5 ?_
  exact ev_ireturn (pc := 6) rfl (nar_int _) (qRI_eq h0) dX7_side_6
theorem dX7_actionOf_0 : decode cX7_actionOf 0 = .ok (.iconst 0, 1) := by decide +kernel
theorem dX7_actionOf_1 : decode cX7_actionOf 1 = .ok (.istore_n 2, 1) := by decide +kernel
theorem dX7_actionOf_2 : decode cX7_actionOf 2 = .ok (.iload_n 2, 1) := by decide +kernel
theorem dX7_actionOf_3 : decode cX7_actionOf 3 = .ok (.iconst 2, 1) := by decide +kernel
theorem dX7_actionOf_4 : decode cX7_actionOf 4 = .ok (.if_icmp .ge 22, 3) := by decide +kernel
theorem dX7_actionOf_7 : decode cX7_actionOf 7 = .ok (.aload_n 0, 1) := by decide +kernel
theorem dX7_actionOf_8 : decode cX7_actionOf 8 = .ok (.getfield 32, 3) := by decide +kernel
theorem dX7_actionOf_11 : decode cX7_actionOf 11 = .ok (.iload_n 2, 1) := by decide +kernel
theorem dX7_actionOf_12 : decode cX7_actionOf 12 = .ok (.iaload, 1) := by decide +kernel
theorem dX7_actionOf_13 : decode cX7_actionOf 13 = .ok (.iload_n 1, 1) := by decide +kernel
theorem dX7_actionOf_14 : decode cX7_actionOf 14 = .ok (.iand, 1) := by decide +kernel
theorem dX7_actionOf_15 : decode cX7_actionOf 15 = .ok (.ifCond .eq 5, 3) := by decide +kernel
theorem dX7_actionOf_18 : decode cX7_actionOf 18 = .ok (.iload_n 2, 1) := by decide +kernel
theorem dX7_actionOf_19 : decode cX7_actionOf 19 = .ok (.ireturn, 1) := by decide +kernel
theorem dX7_actionOf_20 : decode cX7_actionOf 20 = .ok (.iinc 2 1, 3) := by decide +kernel
theorem dX7_actionOf_23 : decode cX7_actionOf 23 = .ok (.goto (-21), 3) := by decide +kernel
theorem dX7_actionOf_26 : decode cX7_actionOf 26 = .ok (.iconst 2, 1) := by decide +kernel
theorem dX7_actionOf_27 : decode cX7_actionOf 27 = .ok (.ireturn, 1) := by decide +kernel
theorem e_X7_actionOf_2 {X : gk_X} {F : Nat} : ∀ (n : Nat) (l0 : Nat) (l1 : Int32) (l2 : Int32) (S : gk_S) (r : (Int32 × gk_S)), f_X7_actionOf_2 F n l0 l1 l2 S = some r → EvW X m_X7_actionOf 1 0 0 2 [some (.ref l0), some (.int l1), some (.int l2)] [] S (qRI r) := by
  intro n
  induction n with
  | zero => intro l0 l1 l2 S r h0; rw [f_X7_actionOf_2] at h0; cases h0
  | succ n ih =>
    intro l0 l1 l2 S r h0; rw [f_X7_actionOf_2] at h0
    refine ev_iload_n (pc := 2) (i := 2) rfl rfl dX7_actionOf_2 ?_
    refine ev_iconst (pc := 3) (v := 2) (by decide) dX7_actionOf_3 ?_
    refine ev_ic_ge (pc := 4) (tgt := 26) (by decide) dX7_actionOf_4 (fun c1 => ?_) (fun c1 => ?_)
    · replace h0 := qi_t h0 c1
      refine ev_iconst (pc := 26) (v := 2) (by decide) dX7_actionOf_26 ?_
      exact ev_ireturn (pc := 27) rfl (nar_int _) (qRI_eq h0) dX7_actionOf_27
    · replace h0 := qi_f h0 c1
      refine ev_aload_n (pc := 7) (i := 0) rfl rfl rfl dX7_actionOf_7 ?_
      obtain ⟨g3, h4⟩ := qk_el h0; clear h0
      obtain ⟨b5, e6, h7⟩ := qP_el h4; clear h4
      refine xv_getP (pc := 8) fn_505 (isb_el g3) e6 gw_170 dX7_actionOf_8 ?_
      refine ev_iload_n (pc := 11) (i := 2) rfl rfl dX7_actionOf_11 ?_
      obtain ⟨g8, h9⟩ := qk_el h7; clear h7
      obtain ⟨g10, h11⟩ := qk_el h9; clear h9
      obtain ⟨x12, e13, h14⟩ := qv_el h11; clear h11
      refine yv_iald (pc := 12) (isb_el g8) (inb_el g10) e13 dX7_actionOf_12 ?_
      refine ev_iload_n (pc := 13) (i := 1) rfl rfl dX7_actionOf_13 ?_
      refine ev_iand (pc := 14)  dX7_actionOf_14 ?_
      refine ev_if_eq (pc := 15) (tgt := 20) (by decide) dX7_actionOf_15 (fun c15 => ?_) (fun c15 => ?_)
      · replace h14 := qi_t h14 c15
        refine ev_iinc (pc := 20) (L' := [some (.ref l0), some (.int l1), some (.int (l2 + 1))]) (i := 2) (v := (l2 + 1)) rfl rfl (by decide) rfl rfl dX7_actionOf_20 ?_
        refine ev_goto (pc := 23) (tgt := 2) (by decide) dX7_actionOf_23 ?_
        exact (ev_weak (qL_s (qL_s (qL_s qL_nil))) (ih _ _ _ _ _ h14))
      · replace h14 := qi_f h14 c15
        refine ev_iload_n (pc := 18) (i := 2) rfl rfl dX7_actionOf_18 ?_
        exact ev_ireturn (pc := 19) rfl (nar_int _) (qRI_eq h14) dX7_actionOf_19
theorem e_X7_actionOf {X : gk_X} {F : Nat} {S : gk_S} {a : Nat} {p0 : Int32} {r : (Int32 × gk_S)} (h0 : f_X7_actionOf F S a p0 = some r) : EvM X m_X7_actionOf 1 0 0 [.ref a, .int p0] S (qRI r) := by
  unfold f_X7_actionOf at h0
  refine ev_method (by decide +kernel) rfl rfl (Nat.le_of_ble_eq_true rfl) ?_
  show EvW X m_X7_actionOf 1 0 0 0 [some (.ref a), some (.int p0), none] [] S _
  refine ev_iconst (pc := 0) (v := 0) (by decide) dX7_actionOf_0 ?_
  refine ev_istore_n (pc := 1) (L' := [some (.ref a), some (.int p0), some (.int 0)]) (i := 2) rfl (by decide) rfl rfl dX7_actionOf_1 ?_
  exact ev_weak (qL_s (qL_s (qL_s qL_nil))) (e_X7_actionOf_2 F _ _ _ _ _ h0)
theorem dX7_upToHighest_0 : decode cX7_upToHighest 0 = .ok (.iload_n 0, 1) := by decide +kernel
theorem dX7_upToHighest_1 : decode cX7_upToHighest 1 = .ok (.iload_n 0, 1) := by decide +kernel
theorem dX7_upToHighest_2 : decode cX7_upToHighest 2 = .ok (.iconst 1, 1) := by decide +kernel
theorem dX7_upToHighest_3 : decode cX7_upToHighest 3 = .ok (.iushr, 1) := by decide +kernel
theorem dX7_upToHighest_4 : decode cX7_upToHighest 4 = .ok (.ior, 1) := by decide +kernel
theorem dX7_upToHighest_5 : decode cX7_upToHighest 5 = .ok (.istore_n 1, 1) := by decide +kernel
theorem dX7_upToHighest_6 : decode cX7_upToHighest 6 = .ok (.iload_n 1, 1) := by decide +kernel
theorem dX7_upToHighest_7 : decode cX7_upToHighest 7 = .ok (.iload_n 1, 1) := by decide +kernel
theorem dX7_upToHighest_8 : decode cX7_upToHighest 8 = .ok (.iconst 2, 1) := by decide +kernel
theorem dX7_upToHighest_9 : decode cX7_upToHighest 9 = .ok (.iushr, 1) := by decide +kernel
theorem dX7_upToHighest_10 : decode cX7_upToHighest 10 = .ok (.ior, 1) := by decide +kernel
theorem dX7_upToHighest_11 : decode cX7_upToHighest 11 = .ok (.istore_n 1, 1) := by decide +kernel
theorem dX7_upToHighest_12 : decode cX7_upToHighest 12 = .ok (.iload_n 1, 1) := by decide +kernel
theorem dX7_upToHighest_13 : decode cX7_upToHighest 13 = .ok (.iload_n 1, 1) := by decide +kernel
theorem dX7_upToHighest_14 : decode cX7_upToHighest 14 = .ok (.iconst 4, 1) := by decide +kernel
theorem dX7_upToHighest_15 : decode cX7_upToHighest 15 = .ok (.iushr, 1) := by decide +kernel
theorem dX7_upToHighest_16 : decode cX7_upToHighest 16 = .ok (.ior, 1) := by decide +kernel
theorem dX7_upToHighest_17 : decode cX7_upToHighest 17 = .ok (.istore_n 1, 1) := by decide +kernel
theorem dX7_upToHighest_18 : decode cX7_upToHighest 18 = .ok (.iload_n 1, 1) := by decide +kernel
theorem dX7_upToHighest_19 : decode cX7_upToHighest 19 = .ok (.iload_n 1, 1) := by decide +kernel
theorem dX7_upToHighest_20 : decode cX7_upToHighest 20 = .ok (.bipush 8, 2) := by decide +kernel
theorem dX7_upToHighest_22 : decode cX7_upToHighest 22 = .ok (.iushr, 1) := by decide +kernel
theorem dX7_upToHighest_23 : decode cX7_upToHighest 23 = .ok (.ior, 1) := by decide +kernel
theorem dX7_upToHighest_24 : decode cX7_upToHighest 24 = .ok (.ireturn, 1) := by decide +kernel
theorem e_X7_upToHighest {X : gk_X} {F : Nat} {S : gk_S} {p0 : Int32} {r : (Int32 × gk_S)} (h0 : f_X7_upToHighest F S p0 = some r) : EvM X m_X7_upToHighest 1 0 0 [.int p0] S (qRI r) := by
  unfold f_X7_upToHighest at h0
  refine ev_method (by decide +kernel) rfl rfl (Nat.le_of_ble_eq_true rfl) ?_
  show EvW X m_X7_upToHighest 1 0 0 0 [some (.int p0), none] [] S _
  refine ev_iload_n (pc := 0) (i := 0) rfl rfl dX7_upToHighest_0 ?_
  refine ev_iload_n (pc := 1) (i := 0) rfl rfl dX7_upToHighest_1 ?_
  refine ev_iconst (pc := 2) (v := 1) (by decide) dX7_upToHighest_2 ?_
  refine ev_iushr (pc := 3)  dX7_upToHighest_3 ?_
  obtain ⟨x1, e2, h3⟩ := qv_el h0; clear h0
  refine xv_top e2 ?_
  refine ev_ior (pc := 4)  dX7_upToHighest_4 ?_
  refine ev_istore_n (pc := 5) (L' := [some (.int p0), some (.int (p0 ||| x1))]) (i := 1) rfl (by decide) rfl rfl dX7_upToHighest_5 ?_
  refine ev_iload_n (pc := 6) (i := 1) rfl rfl dX7_upToHighest_6 ?_
  refine ev_iload_n (pc := 7) (i := 1) rfl rfl dX7_upToHighest_7 ?_
  refine ev_iconst (pc := 8) (v := 2) (by decide) dX7_upToHighest_8 ?_
  refine ev_iushr (pc := 9)  dX7_upToHighest_9 ?_
  obtain ⟨x4, e5, h6⟩ := qv_el h3; clear h3
  refine xv_top e5 ?_
  refine ev_ior (pc := 10)  dX7_upToHighest_10 ?_
  refine ev_istore_n (pc := 11) (L' := [some (.int p0), some (.int ((p0 ||| x1) ||| x4))]) (i := 1) rfl (by decide) rfl rfl dX7_upToHighest_11 ?_
  refine ev_iload_n (pc := 12) (i := 1) rfl rfl dX7_upToHighest_12 ?_
  refine ev_iload_n (pc := 13) (i := 1) rfl rfl dX7_upToHighest_13 ?_
  refine ev_iconst (pc := 14) (v := 4) (by decide) dX7_upToHighest_14 ?_
  refine ev_iushr (pc := 15)  dX7_upToHighest_15 ?_
  obtain ⟨x7, e8, h9⟩ := qv_el h6; clear h6
  refine xv_top e8 ?_
  refine ev_ior (pc := 16)  dX7_upToHighest_16 ?_
  obtain ⟨x10, e11, h12⟩ := qv_el h9; clear h9
  refine xv_top e11 ?_
  refine ev_istore_n (pc := 17) (L' := [some (.int p0), some (.int x10)]) (i := 1) rfl (by decide) rfl rfl dX7_upToHighest_17 ?_
  refine ev_iload_n (pc := 18) (i := 1) rfl rfl dX7_upToHighest_18 ?_
  refine ev_iload_n (pc := 19) (i := 1) rfl rfl dX7_upToHighest_19 ?_
  refine ev_bipush (pc := 20) (v := 8) (by decide) dX7_upToHighest_20 ?_
  refine ev_iushr (pc := 22)  dX7_upToHighest_22 ?_
  obtain ⟨x13, e14, h15⟩ := qv_el h12; clear h12
  refine xv_top e14 ?_
  refine ev_ior (pc := 23)  dX7_upToHighest_23 ?_
  exact ev_ireturn (pc := 24) rfl (nar_int _) (qRI_eq h15) dX7_upToHighest_24
theorem dX7_settle_0 : decode cX7_settle 0 = .ok (.iload_n 2, 1) := by decide +kernel
theorem dX7_settle_1 : decode cX7_settle 1 = .ok (.ldc 126, 2) := by decide +kernel
theorem dX7_settle_3 : decode cX7_settle 3 = .ok (.iand, 1) := by decide +kernel
theorem dX7_settle_4 : decode cX7_settle 4 = .ok (.istore 4, 2) := by decide +kernel
theorem dX7_settle_6 : decode cX7_settle 6 = .ok (.iload_n 2, 1) := by decide +kernel
theorem dX7_settle_7 : decode cX7_settle 7 = .ok (.bipush 16, 2) := by decide +kernel
theorem dX7_settle_9 : decode cX7_settle 9 = .ok (.iushr, 1) := by decide +kernel
theorem dX7_settle_10 : decode cX7_settle 10 = .ok (.istore 5, 2) := by decide +kernel
theorem dX7_settle_12 : decode cX7_settle 12 = .ok (.iload 4, 2) := by decide +kernel
theorem dX7_settle_14 : decode cX7_settle 14 = .ok (.aload_n 0, 1) := by decide +kernel
theorem dX7_settle_15 : decode cX7_settle 15 = .ok (.getfield 29, 3) := by decide +kernel
theorem dX7_settle_18 : decode cX7_settle 18 = .ok (.iload_n 1, 1) := by decide +kernel
theorem dX7_settle_19 : decode cX7_settle 19 = .ok (.iaload, 1) := by decide +kernel
theorem dX7_settle_20 : decode cX7_settle 20 = .ok (.iload_n 3, 1) := by decide +kernel
theorem dX7_settle_21 : decode cX7_settle 21 = .ok (.iushr, 1) := by decide +kernel
theorem dX7_settle_22 : decode cX7_settle 22 = .ok (.iand, 1) := by decide +kernel
theorem dX7_settle_23 : decode cX7_settle 23 = .ok (.istore 6, 2) := by decide +kernel
theorem dX7_settle_25 : decode cX7_settle 25 = .ok (.iload 6, 2) := by decide +kernel
theorem dX7_settle_27 : decode cX7_settle 27 = .ok (.ifCond .eq 30, 3) := by decide +kernel
theorem dX7_settle_30 : decode cX7_settle 30 = .ok (.iload 6, 2) := by decide +kernel
theorem dX7_settle_32 : decode cX7_settle 32 = .ok (.iload 6, 2) := by decide +kernel
theorem dX7_settle_34 : decode cX7_settle 34 = .ok (.ineg, 1) := by decide +kernel
theorem dX7_settle_35 : decode cX7_settle 35 = .ok (.iand, 1) := by decide +kernel
theorem dX7_settle_36 : decode cX7_settle 36 = .ok (.istore 7, 2) := by decide +kernel
theorem dX7_settle_38 : decode cX7_settle 38 = .ok (.iload 4, 2) := by decide +kernel
theorem dX7_settle_40 : decode cX7_settle 40 = .ok (.iload 7, 2) := by decide +kernel
theorem dX7_settle_42 : decode cX7_settle 42 = .ok (.iconst 1, 1) := by decide +kernel
theorem dX7_settle_43 : decode cX7_settle 43 = .ok (.isub, 1) := by decide +kernel
theorem dX7_settle_44 : decode cX7_settle 44 = .ok (.iand, 1) := by decide +kernel
theorem dX7_settle_45 : decode cX7_settle 45 = .ok (.istore 4, 2) := by decide +kernel
theorem dX7_settle_47 : decode cX7_settle 47 = .ok (.aload_n 0, 1) := by decide +kernel
theorem dX7_settle_48 : decode cX7_settle 48 = .ok (.iload 7, 2) := by decide +kernel
theorem dX7_settle_50 : decode cX7_settle 50 = .ok (.iload_n 3, 1) := by decide +kernel
theorem dX7_settle_51 : decode cX7_settle 51 = .ok (.ishl, 1) := by decide +kernel
theorem dX7_settle_52 : decode cX7_settle 52 = .ok (.invokevirtual 133, 3) := by decide +kernel
theorem dX7_settle_55 : decode cX7_settle 55 = .ok (.istore 5, 2) := by decide +kernel
theorem dX7_settle_57 : decode cX7_settle 57 = .ok (.iload 5, 2) := by decide +kernel
theorem dX7_settle_59 : decode cX7_settle 59 = .ok (.ifCond .lt 26, 3) := by decide +kernel
theorem dX7_settle_62 : decode cX7_settle 62 = .ok (.iload 5, 2) := by decide +kernel
theorem dX7_settle_64 : decode cX7_settle 64 = .ok (.iconst 3, 1) := by decide +kernel
theorem dX7_settle_65 : decode cX7_settle 65 = .ok (.if_icmp .ge 20, 3) := by decide +kernel
theorem dX7_settle_68 : decode cX7_settle 68 = .ok (.iload 4, 2) := by decide +kernel
theorem dX7_settle_70 : decode cX7_settle 70 = .ok (.aload_n 0, 1) := by decide +kernel
theorem dX7_settle_71 : decode cX7_settle 71 = .ok (.getfield 32, 3) := by decide +kernel
theorem dX7_settle_74 : decode cX7_settle 74 = .ok (.iload 5, 2) := by decide +kernel
theorem dX7_settle_76 : decode cX7_settle 76 = .ok (.iaload, 1) := by decide +kernel
theorem dX7_settle_77 : decode cX7_settle 77 = .ok (.iload_n 3, 1) := by decide +kernel
theorem dX7_settle_78 : decode cX7_settle 78 = .ok (.iushr, 1) := by decide +kernel
theorem dX7_settle_79 : decode cX7_settle 79 = .ok (.iconst (-1), 1) := by decide +kernel
theorem dX7_settle_80 : decode cX7_settle 80 = .ok (.ixor, 1) := by decide +kernel
theorem dX7_settle_81 : decode cX7_settle 81 = .ok (.iand, 1) := by decide +kernel
theorem dX7_settle_82 : decode cX7_settle 82 = .ok (.goto 5, 3) := by decide +kernel
theorem dX7_settle_85 : decode cX7_settle 85 = .ok (.iload 4, 2) := by decide +kernel
theorem dX7_settle_87 : decode cX7_settle 87 = .ok (.istore 7, 2) := by decide +kernel
theorem dX7_settle_89 : decode cX7_settle 89 = .ok (.iload 4, 2) := by decide +kernel
theorem dX7_settle_91 : decode cX7_settle 91 = .ok (.iload 7, 2) := by decide +kernel
theorem dX7_settle_93 : decode cX7_settle 93 = .ok (.invokestatic 136, 3) := by decide +kernel
theorem dX7_settle_96 : decode cX7_settle 96 = .ok (.iand, 1) := by decide +kernel
theorem dX7_settle_97 : decode cX7_settle 97 = .ok (.iload 5, 2) := by decide +kernel
theorem dX7_settle_99 : decode cX7_settle 99 = .ok (.invokestatic 62, 3) := by decide +kernel
theorem dX7_settle_102 : decode cX7_settle 102 = .ok (.ireturn, 1) := by decide +kernel
theorem e_X7_settle_87 {X : gk_X} {F : Nat} {l4 : Int32} {l5 : Int32} {s0 : Int32} {S : gk_S} {r : (Int32 × gk_S)} (h0 : f_X7_settle_87 F l4 l5 s0 S = some r) : EvW X m_X7_settle 2 0 0 87 [none, none, none, none, some (.int l4), some (.int l5), none, none] [.int s0] S (qRI r) := by
  unfold f_X7_settle_87 at h0
  refine ev_istore (pc := 87) (L' := [none, none, none, none, some (.int l4), some (.int l5), none, some (.int s0)]) (i := 7) (by decide) rfl rfl dX7_settle_87 ?_
  refine ev_iload (pc := 89) (i := 4) rfl dX7_settle_89 ?_
  refine ev_iload (pc := 91) (i := 7) rfl dX7_settle_91 ?_
  obtain ⟨x23, S24, e25, h26⟩ := qc_el h0; clear h0
  refine xv_callS (pc := 93) (st := [.int l4]) (as := [.int s0]) (v := (some (.int x23))) (S' := S24) ok_X7_upToHighest (e_X7_upToHighest e25) (by decide) rfl (Nat.le_of_ble_eq_true rfl) rfl gw_875 dX7_settle_93 ?_
  refine ev_iand (pc := 96)  dX7_settle_96 ?_
  refine ev_iload (pc := 97) (i := 5) rfl dX7_settle_97 ?_
  obtain ⟨x27, S28, e29, h30⟩ := qc_el h26; clear h26
  refine xv_callS (pc := 99) (st := []) (as := [.int (l4 &&& x23), .int l5]) (v := (some (.int x27))) (S' := S28) ok_X7_side (e_X7_side e29) (by decide) rfl (Nat.le_of_ble_eq_true rfl) rfl gw_855 dX7_settle_99 ?_
  exact ev_ireturn (pc := 102) rfl (nar_int _) (qRI_eq h30) dX7_settle_102
theorem e_X7_settle_57 {X : gk_X} {F : Nat} {l0 : Nat} {l3 : Int32} {l4 : Int32} {l5 : Int32} {S : gk_S} {r : (Int32 × gk_S)} (h0 : f_X7_settle_57 F l0 l3 l4 l5 S = some r) : EvW X m_X7_settle 2 0 0 57 [some (.ref l0), none, none, some (.int l3), some (.int l4), some (.int l5), none, none] [] S (qRI r) := by
  unfold f_X7_settle_57 at h0
  refine ev_iload (pc := 57) (i := 5) rfl dX7_settle_57 ?_
  refine ev_if_lt (pc := 59) (tgt := 85) (by decide) dX7_settle_59 (fun c21 => ?_) (fun c21 => ?_)
  · replace h0 := qi_t h0 c21
    refine ev_iload (pc := 85) (i := 4) rfl dX7_settle_85 ?_
    exact ev_weak (qL_n (qL_n (qL_n (qL_n (qL_s (qL_s (qL_n (qL_n qL_nil)))))))) (e_X7_settle_87 h0)
  · replace h0 := qi_f h0 c21
    refine ev_iload (pc := 62) (i := 5) rfl dX7_settle_62 ?_
    refine ev_iconst (pc := 64) (v := 3) (by decide) dX7_settle_64 ?_
    refine ev_ic_ge (pc := 65) (tgt := 85) (by decide) dX7_settle_65 (fun c31 => ?_) (fun c31 => ?_)
    · replace h0 := qi_t h0 c31
      refine ev_iload (pc := 85) (i := 4) rfl dX7_settle_85 ?_
      exact ev_weak (qL_n (qL_n (qL_n (qL_n (qL_s (qL_s (qL_n (qL_n qL_nil)))))))) (e_X7_settle_87 h0)
    · replace h0 := qi_f h0 c31
      refine ev_iload (pc := 68) (i := 4) rfl dX7_settle_68 ?_
      refine ev_aload_n (pc := 70) (i := 0) rfl rfl rfl dX7_settle_70 ?_
      obtain ⟨g33, h34⟩ := qk_el h0; clear h0
      obtain ⟨b35, e36, h37⟩ := qP_el h34; clear h34
      refine xv_getP (pc := 71) fn_505 (isb_el g33) e36 gw_170 dX7_settle_71 ?_
      refine ev_iload (pc := 74) (i := 5) rfl dX7_settle_74 ?_
      obtain ⟨g38, h39⟩ := qk_el h37; clear h37
      obtain ⟨g40, h41⟩ := qk_el h39; clear h39
      obtain ⟨x42, e43, h44⟩ := qv_el h41; clear h41
      refine yv_iald (pc := 76) (isb_el g38) (inb_el g40) e43 dX7_settle_76 ?_
      refine ev_iload_n (pc := 77) (i := 3) rfl rfl dX7_settle_77 ?_
      refine ev_iushr (pc := 78)  dX7_settle_78 ?_
      obtain ⟨x45, e46, h47⟩ := qv_el h44; clear h44
      refine xv_top e46 ?_
      refine ev_iconst (pc := 79) (v := -1) (by decide) dX7_settle_79 ?_
      refine ev_ixor (pc := 80)  dX7_settle_80 ?_
      refine ev_iand (pc := 81)  dX7_settle_81 ?_
      refine ev_goto (pc := 82) (tgt := 87) (by decide) dX7_settle_82 ?_
      exact ev_weak (qL_n (qL_n (qL_n (qL_n (qL_s (qL_s (qL_n (qL_n qL_nil)))))))) (e_X7_settle_87 h47)
theorem e_X7_settle {X : gk_X} {F : Nat} {S : gk_S} {a : Nat} {p0 : Int32} {p1 : Int32} {p2 : Int32} {r : (Int32 × gk_S)} (h0 : f_X7_settle F S a p0 p1 p2 = some r) : EvM X m_X7_settle 2 0 0 [.ref a, .int p0, .int p1, .int p2] S (qRI r) := by
  unfold f_X7_settle at h0
  refine ev_method (by decide +kernel) rfl rfl (Nat.le_of_ble_eq_true rfl) ?_
  show EvW X m_X7_settle 2 0 0 0 [some (.ref a), some (.int p0), some (.int p1), some (.int p2), none, none, none, none] [] S _
  refine ev_iload_n (pc := 0) (i := 2) rfl rfl dX7_settle_0 ?_
  refine ev_ldc (pc := 1) (v := 65535) gw_870 dX7_settle_1 ?_
  refine ev_iand (pc := 3)  dX7_settle_3 ?_
  refine ev_istore (pc := 4) (L' := [some (.ref a), some (.int p0), some (.int p1), some (.int p2), some (.int (p1 &&& 65535)), none, none, none]) (i := 4) (by decide) rfl rfl dX7_settle_4 ?_
  refine ev_iload_n (pc := 6) (i := 2) rfl rfl dX7_settle_6 ?_
  refine ev_bipush (pc := 7) (v := 16) (by decide) dX7_settle_7 ?_
  refine ev_iushr (pc := 9)  dX7_settle_9 ?_
  obtain ⟨x1, e2, h3⟩ := qv_el h0; clear h0
  refine xv_top e2 ?_
  refine ev_istore (pc := 10) (L' := [some (.ref a), some (.int p0), some (.int p1), some (.int p2), some (.int (p1 &&& 65535)), some (.int x1), none, none]) (i := 5) (by decide) rfl rfl dX7_settle_10 ?_
  refine ev_iload (pc := 12) (i := 4) rfl dX7_settle_12 ?_
  refine ev_aload_n (pc := 14) (i := 0) rfl rfl rfl dX7_settle_14 ?_
  obtain ⟨g4, h5⟩ := qk_el h3; clear h3
  obtain ⟨b6, e7, h8⟩ := qP_el h5; clear h5
  refine xv_getP (pc := 15) fn_504 (isb_el g4) e7 gw_169 dX7_settle_15 ?_
  refine ev_iload_n (pc := 18) (i := 1) rfl rfl dX7_settle_18 ?_
  obtain ⟨g9, h10⟩ := qk_el h8; clear h8
  obtain ⟨g11, h12⟩ := qk_el h10; clear h10
  obtain ⟨x13, e14, h15⟩ := qv_el h12; clear h12
  refine yv_iald (pc := 19) (isb_el g9) (inb_el g11) e14 dX7_settle_19 ?_
  refine ev_iload_n (pc := 20) (i := 3) rfl rfl dX7_settle_20 ?_
  refine ev_iushr (pc := 21)  dX7_settle_21 ?_
  obtain ⟨x16, e17, h18⟩ := qv_el h15; clear h15
  refine xv_top e17 ?_
  refine ev_iand (pc := 22)  dX7_settle_22 ?_
  refine ev_istore (pc := 23) (L' := [some (.ref a), some (.int p0), some (.int p1), some (.int p2), some (.int (p1 &&& 65535)), some (.int x1), some (.int ((p1 &&& 65535) &&& x16)), none]) (i := 6) (by decide) rfl rfl dX7_settle_23 ?_
  refine ev_iload (pc := 25) (i := 6) rfl dX7_settle_25 ?_
  refine ev_if_eq (pc := 27) (tgt := 57) (by decide) dX7_settle_27 (fun c19 => ?_) (fun c19 => ?_)
  · replace h18 := qi_t h18 c19
    exact ev_weak (qL_s (qL_n (qL_n (qL_s (qL_s (qL_s (qL_n (qL_n qL_nil)))))))) (e_X7_settle_57 h18)
  · replace h18 := qi_f h18 c19
    refine ev_iload (pc := 30) (i := 6) rfl dX7_settle_30 ?_
    refine ev_iload (pc := 32) (i := 6) rfl dX7_settle_32 ?_
    refine ev_ineg (pc := 34)  dX7_settle_34 ?_
    refine ev_iand (pc := 35)  dX7_settle_35 ?_
    obtain ⟨x48, e49, h50⟩ := qv_el h18; clear h18
    refine xv_top e49 ?_
    refine ev_istore (pc := 36) (L' := [some (.ref a), some (.int p0), some (.int p1), some (.int p2), some (.int (p1 &&& 65535)), some (.int x1), some (.int ((p1 &&& 65535) &&& x16)), some (.int x48)]) (i := 7) (by decide) rfl rfl dX7_settle_36 ?_
    refine ev_iload (pc := 38) (i := 4) rfl dX7_settle_38 ?_
    refine ev_iload (pc := 40) (i := 7) rfl dX7_settle_40 ?_
    refine ev_iconst (pc := 42) (v := 1) (by decide) dX7_settle_42 ?_
    refine ev_isub (pc := 43)  dX7_settle_43 ?_
    refine ev_iand (pc := 44)  dX7_settle_44 ?_
    obtain ⟨x51, e52, h53⟩ := qv_el h50; clear h50
    refine xv_top e52 ?_
    refine ev_istore (pc := 45) (L' := [some (.ref a), some (.int p0), some (.int p1), some (.int p2), some (.int x51), some (.int x1), some (.int ((p1 &&& 65535) &&& x16)), some (.int x48)]) (i := 4) (by decide) rfl rfl dX7_settle_45 ?_
    refine ev_aload_n (pc := 47) (i := 0) rfl rfl rfl dX7_settle_47 ?_
    refine ev_iload (pc := 48) (i := 7) rfl dX7_settle_48 ?_
    refine ev_iload_n (pc := 50) (i := 3) rfl rfl dX7_settle_50 ?_
    refine ev_ishl (pc := 51)  dX7_settle_51 ?_
    obtain ⟨x54, S55, e56, h57⟩ := qc_el h53; clear h53
    refine xv_callV (pc := 52) (st := []) (as := [.int ((x48 : Int32) <<< ((p2 : Int32) &&& 31))]) (v := (some (.int x54))) (S' := S55) ok_X7_actionOf (e_X7_actionOf e56) (isb_el g4) (by decide) rfl (Nat.le_of_ble_eq_true rfl) rfl gw_871 dX7_settle_52 ?_
    refine ev_istore (pc := 55) (L' := [some (.ref a), some (.int p0), some (.int p1), some (.int p2), some (.int x51), some (.int x54), some (.int ((p1 &&& 65535) &&& x16)), some (.int x48)]) (i := 5) (by decide) rfl rfl dX7_settle_55 ?_
    exact ev_weak (qL_s (qL_n (qL_n (qL_s (qL_s (qL_s (qL_n (qL_n qL_nil)))))))) (e_X7_settle_57 h57)
theorem dX7_goThrough_0 : decode cX7_goThrough 0 = .ok (.iconst (-1), 1) := by decide +kernel
theorem dX7_goThrough_1 : decode cX7_goThrough 1 = .ok (.istore 4, 2) := by decide +kernel
theorem dX7_goThrough_3 : decode cX7_goThrough 3 = .ok (.iconst (-1), 1) := by decide +kernel
theorem dX7_goThrough_4 : decode cX7_goThrough 4 = .ok (.istore 5, 2) := by decide +kernel
theorem dX7_goThrough_6 : decode cX7_goThrough 6 = .ok (.iconst 0, 1) := by decide +kernel
theorem dX7_goThrough_7 : decode cX7_goThrough 7 = .ok (.istore 6, 2) := by decide +kernel
theorem dX7_goThrough_9 : decode cX7_goThrough 9 = .ok (.iload 6, 2) := by decide +kernel
theorem dX7_goThrough_11 : decode cX7_goThrough 11 = .ok (.aload_n 0, 1) := by decide +kernel
theorem dX7_goThrough_12 : decode cX7_goThrough 12 = .ok (.getfield 25, 3) := by decide +kernel
theorem dX7_goThrough_15 : decode cX7_goThrough 15 = .ok (.iload_n 1, 1) := by decide +kernel
theorem dX7_goThrough_16 : decode cX7_goThrough 16 = .ok (.iaload, 1) := by decide +kernel
theorem dX7_goThrough_17 : decode cX7_goThrough 17 = .ok (.if_icmp .ge 110, 3) := by decide +kernel
theorem dX7_goThrough_20 : decode cX7_goThrough 20 = .ok (.iload 6, 2) := by decide +kernel
theorem dX7_goThrough_22 : decode cX7_goThrough 22 = .ok (.bipush 65, 2) := by decide +kernel
theorem dX7_goThrough_24 : decode cX7_goThrough 24 = .ok (.if_icmp .ge 103, 3) := by decide +kernel
theorem dX7_goThrough_27 : decode cX7_goThrough 27 = .ok (.iload_n 2, 1) := by decide +kernel
theorem dX7_goThrough_28 : decode cX7_goThrough 28 = .ok (.aload_n 0, 1) := by decide +kernel
theorem dX7_goThrough_29 : decode cX7_goThrough 29 = .ok (.getfield 22, 3) := by decide +kernel
theorem dX7_goThrough_32 : decode cX7_goThrough 32 = .ok (.iload_n 1, 1) := by decide +kernel
theorem dX7_goThrough_33 : decode cX7_goThrough 33 = .ok (.aaload, 1) := by decide +kernel
theorem dX7_goThrough_34 : decode cX7_goThrough 34 = .ok (.iload 6, 2) := by decide +kernel
theorem dX7_goThrough_36 : decode cX7_goThrough 36 = .ok (.iaload, 1) := by decide +kernel
theorem dX7_goThrough_37 : decode cX7_goThrough 37 = .ok (.ldc 126, 2) := by decide +kernel
theorem dX7_goThrough_39 : decode cX7_goThrough 39 = .ok (.iand, 1) := by decide +kernel
theorem dX7_goThrough_40 : decode cX7_goThrough 40 = .ok (.ldc 132, 2) := by decide +kernel
theorem dX7_goThrough_42 : decode cX7_goThrough 42 = .ok (.ior, 1) := by decide +kernel
theorem dX7_goThrough_43 : decode cX7_goThrough 43 = .ok (.iand, 1) := by decide +kernel
theorem dX7_goThrough_44 : decode cX7_goThrough 44 = .ok (.istore 7, 2) := by decide +kernel
theorem dX7_goThrough_46 : decode cX7_goThrough 46 = .ok (.iload_n 3, 1) := by decide +kernel
theorem dX7_goThrough_47 : decode cX7_goThrough 47 = .ok (.aload_n 0, 1) := by decide +kernel
theorem dX7_goThrough_48 : decode cX7_goThrough 48 = .ok (.getfield 22, 3) := by decide +kernel
theorem dX7_goThrough_51 : decode cX7_goThrough 51 = .ok (.iload_n 1, 1) := by decide +kernel
theorem dX7_goThrough_52 : decode cX7_goThrough 52 = .ok (.aaload, 1) := by decide +kernel
theorem dX7_goThrough_53 : decode cX7_goThrough 53 = .ok (.iload 6, 2) := by decide +kernel
theorem dX7_goThrough_55 : decode cX7_goThrough 55 = .ok (.iaload, 1) := by decide +kernel
theorem dX7_goThrough_56 : decode cX7_goThrough 56 = .ok (.bipush 16, 2) := by decide +kernel
theorem dX7_goThrough_58 : decode cX7_goThrough 58 = .ok (.iushr, 1) := by decide +kernel
theorem dX7_goThrough_59 : decode cX7_goThrough 59 = .ok (.ldc 132, 2) := by decide +kernel
theorem dX7_goThrough_61 : decode cX7_goThrough 61 = .ok (.ior, 1) := by decide +kernel
theorem dX7_goThrough_62 : decode cX7_goThrough 62 = .ok (.iand, 1) := by decide +kernel
theorem dX7_goThrough_63 : decode cX7_goThrough 63 = .ok (.istore 8, 2) := by decide +kernel
theorem dX7_goThrough_65 : decode cX7_goThrough 65 = .ok (.iload 7, 2) := by decide +kernel
theorem dX7_goThrough_67 : decode cX7_goThrough 67 = .ok (.iload 4, 2) := by decide +kernel
theorem dX7_goThrough_69 : decode cX7_goThrough 69 = .ok (.if_icmp .ne 13, 3) := by decide +kernel
theorem dX7_goThrough_72 : decode cX7_goThrough 72 = .ok (.iload 8, 2) := by decide +kernel
theorem dX7_goThrough_74 : decode cX7_goThrough 74 = .ok (.iload 5, 2) := by decide +kernel
theorem dX7_goThrough_76 : decode cX7_goThrough 76 = .ok (.if_icmp .ne 6, 3) := by decide +kernel
theorem dX7_goThrough_79 : decode cX7_goThrough 79 = .ok (.goto 42, 3) := by decide +kernel
theorem dX7_goThrough_82 : decode cX7_goThrough 82 = .ok (.iload 7, 2) := by decide +kernel
theorem dX7_goThrough_84 : decode cX7_goThrough 84 = .ok (.istore 4, 2) := by decide +kernel
theorem dX7_goThrough_86 : decode cX7_goThrough 86 = .ok (.iload 8, 2) := by decide +kernel
theorem dX7_goThrough_88 : decode cX7_goThrough 88 = .ok (.istore 5, 2) := by decide +kernel
theorem dX7_goThrough_90 : decode cX7_goThrough 90 = .ok (.aload_n 0, 1) := by decide +kernel
theorem dX7_goThrough_91 : decode cX7_goThrough 91 = .ok (.getfield 11, 3) := by decide +kernel
theorem dX7_goThrough_94 : decode cX7_goThrough 94 = .ok (.iload_n 1, 1) := by decide +kernel
theorem dX7_goThrough_95 : decode cX7_goThrough 95 = .ok (.aload_n 0, 1) := by decide +kernel
theorem dX7_goThrough_96 : decode cX7_goThrough 96 = .ok (.getfield 17, 3) := by decide +kernel
theorem dX7_goThrough_99 : decode cX7_goThrough 99 = .ok (.iload_n 1, 1) := by decide +kernel
theorem dX7_goThrough_100 : decode cX7_goThrough 100 = .ok (.aaload, 1) := by decide +kernel
theorem dX7_goThrough_101 : decode cX7_goThrough 101 = .ok (.iload 6, 2) := by decide +kernel
theorem dX7_goThrough_103 : decode cX7_goThrough 103 = .ok (.laload, 1) := by decide +kernel
theorem dX7_goThrough_104 : decode cX7_goThrough 104 = .ok (.lastore, 1) := by decide +kernel
theorem dX7_goThrough_105 : decode cX7_goThrough 105 = .ok (.aload_n 0, 1) := by decide +kernel
theorem dX7_goThrough_106 : decode cX7_goThrough 106 = .ok (.iload_n 1, 1) := by decide +kernel
theorem dX7_goThrough_107 : decode cX7_goThrough 107 = .ok (.iconst 1, 1) := by decide +kernel
theorem dX7_goThrough_108 : decode cX7_goThrough 108 = .ok (.iadd, 1) := by decide +kernel
theorem dX7_goThrough_109 : decode cX7_goThrough 109 = .ok (.iload 7, 2) := by decide +kernel
theorem dX7_goThrough_111 : decode cX7_goThrough 111 = .ok (.iload 8, 2) := by decide +kernel
theorem dX7_goThrough_113 : decode cX7_goThrough 113 = .ok (.invokevirtual 70, 3) := by decide +kernel
theorem dX7_goThrough_116 : decode cX7_goThrough 116 = .ok (.ifCond .eq 5, 3) := by decide +kernel
theorem dX7_goThrough_119 : decode cX7_goThrough 119 = .ok (.iconst 1, 1) := by decide +kernel
theorem dX7_goThrough_120 : decode cX7_goThrough 120 = .ok (.ireturn, 1) := by decide +kernel
theorem dX7_goThrough_121 : decode cX7_goThrough 121 = .ok (.iinc 6 1, 3) := by decide +kernel
theorem dX7_goThrough_124 : decode cX7_goThrough 124 = .ok (.goto (-115), 3) := by decide +kernel
theorem dX7_goThrough_127 : decode cX7_goThrough 127 = .ok (.iconst 0, 1) := by decide +kernel
theorem dX7_goThrough_128 : decode cX7_goThrough 128 = .ok (.ireturn, 1) := by decide +kernel
theorem e_X7_goThrough_82 {X : gk_X} {F : Nat} {dg : Nat} {g : gk_S → Nat → Int32 → Int32 → Int32 → Option (Int32 × gk_S)} (hg : ∀ (S : gk_S) (q0 : Nat) (q1 : Int32) (q2 : Int32) (q3 : Int32) (r : Int32 × gk_S), g S q0 q1 q2 q3 = some r → EvM X m_X7_descend dg 0 0 [.ref q0, .int q1, .int q2, .int q3] S (qRI r)) {k9 : Nat → Int32 → Int32 → Int32 → Int32 → Int32 → Int32 → gk_S → Option (Int32 × gk_S)} (hk9 : ∀ (l0 : Nat) (l1 : Int32) (l2 : Int32) (l3 : Int32) (l4 : Int32) (l5 : Int32) (l6 : Int32) (S : gk_S) (r : (Int32 × gk_S)), k9 l0 l1 l2 l3 l4 l5 l6 S = some r → EvW X m_X7_goThrough (dg + 1) 0 0 9 [some (.ref l0), some (.int l1), some (.int l2), some (.int l3), some (.int l4), some (.int l5), some (.int l6), none, none] [] S (qRI r)) {l0 : Nat} {l1 : Int32} {l2 : Int32} {l3 : Int32} {l6 : Int32} {l7 : Int32} {l8 : Int32} {S : gk_S} {r : (Int32 × gk_S)} (h0 : f_X7_goThrough_82 F g k9 l0 l1 l2 l3 l6 l7 l8 S = some r) : EvW X m_X7_goThrough (dg + 1) 0 0 82 [some (.ref l0), some (.int l1), some (.int l2), some (.int l3), none, none, some (.int l6), some (.int l7), some (.int l8)] [] S (qRI r) := by
  unfold f_X7_goThrough_82 at h0
  refine ev_iload (pc := 82) (i := 7) rfl dX7_goThrough_82 ?_
  refine ev_istore (pc := 84) (L' := [some (.ref l0), some (.int l1), some (.int l2), some (.int l3), some (.int l7), none, some (.int l6), some (.int l7), some (.int l8)]) (i := 4) (by decide) rfl rfl dX7_goThrough_84 ?_
  refine ev_iload (pc := 86) (i := 8) rfl dX7_goThrough_86 ?_
  refine ev_istore (pc := 88) (L' := [some (.ref l0), some (.int l1), some (.int l2), some (.int l3), some (.int l7), some (.int l8), some (.int l6), some (.int l7), some (.int l8)]) (i := 5) (by decide) rfl rfl dX7_goThrough_88 ?_
  refine ev_aload_n (pc := 90) (i := 0) rfl rfl rfl dX7_goThrough_90 ?_
  obtain ⟨g62, h63⟩ := qk_el h0; clear h0
  obtain ⟨b64, e65, h66⟩ := qP_el h63; clear h63
  refine xv_getP (pc := 91) fn_500 (isb_el g62) e65 gw_164 dX7_goThrough_91 ?_
  refine ev_iload_n (pc := 94) (i := 1) rfl rfl dX7_goThrough_94 ?_
  refine ev_aload_n (pc := 95) (i := 0) rfl rfl rfl dX7_goThrough_95 ?_
  obtain ⟨b67, e68, h69⟩ := qP_el h66; clear h66
  refine xv_getP (pc := 96) fn_501 (isb_el g62) e68 gw_166 dX7_goThrough_96 ?_
  refine ev_iload_n (pc := 99) (i := 1) rfl rfl dX7_goThrough_99 ?_
  obtain ⟨g70, h71⟩ := qk_el h69; clear h69
  obtain ⟨g72, h73⟩ := qk_el h71; clear h71
  obtain ⟨b74, e75, h76⟩ := qP_el h73; clear h73
  refine yv_aald (pc := 100) (isb_el g70) (by decide) (inb_el g72) e75 dX7_goThrough_100 ?_
  refine ev_iload (pc := 101) (i := 6) rfl dX7_goThrough_101 ?_
  obtain ⟨g77, h78⟩ := qk_el h76; clear h76
  obtain ⟨g79, h80⟩ := qk_el h78; clear h78
  obtain ⟨x81, e82, h83⟩ := qv_el h80; clear h80
  refine yv_lald (pc := 103) (isb_el g77) (inb_el g79) e82 dX7_goThrough_103 ?_
  obtain ⟨g84, h85⟩ := qk_el h83; clear h83
  obtain ⟨g86, h87⟩ := qk_el h85; clear h85
  obtain ⟨S88, e89, h90⟩ := qv_el h87; clear h87
  refine yv_last (pc := 104) (isb_el g84) (inb_el g86) e89 dX7_goThrough_104 ?_
  refine ev_aload_n (pc := 105) (i := 0) rfl rfl rfl dX7_goThrough_105 ?_
  refine ev_iload_n (pc := 106) (i := 1) rfl rfl dX7_goThrough_106 ?_
  refine ev_iconst (pc := 107) (v := 1) (by decide) dX7_goThrough_107 ?_
  refine ev_iadd (pc := 108)  dX7_goThrough_108 ?_
  refine ev_iload (pc := 109) (i := 7) rfl dX7_goThrough_109 ?_
  refine ev_iload (pc := 111) (i := 8) rfl dX7_goThrough_111 ?_
  obtain ⟨x91, S92, e93, h94⟩ := qc_el h90; clear h90
  refine xv_callV (pc := 113) (st := []) (as := [.int (l1 + 1), .int l7, .int l8]) (v := (some (.int x91))) (S' := S92) ok_X7_descend (hg _ _ _ _ _ _ e93) (is_wJ (isb_el g62) e89) (by omega) rfl (Nat.le_of_ble_eq_true rfl) rfl gw_862 dX7_goThrough_113 ?_
  refine ev_if_eq (pc := 116) (tgt := 121) (by decide) dX7_goThrough_116 (fun c95 => ?_) (fun c95 => ?_)
  · replace h94 := qi_t h94 c95
    refine ev_iinc (pc := 121) (L' := [some (.ref l0), some (.int l1), some (.int l2), some (.int l3), some (.int l7), some (.int l8), some (.int (l6 + 1)), some (.int l7), some (.int l8)]) (i := 6) (v := (l6 + 1)) rfl rfl (by decide) rfl rfl dX7_goThrough_121 ?_
    refine ev_goto (pc := 124) (tgt := 9) (by decide) dX7_goThrough_124 ?_
    exact ev_weak (qL_s (qL_s (qL_s (qL_s (qL_s (qL_s (qL_s (qL_n (qL_n qL_nil))))))))) (hk9 _ _ _ _ _ _ _ _ _ h94)
  · replace h94 := qi_f h94 c95
    refine ev_iconst (pc := 119) (v := 1) (by decide) dX7_goThrough_119 ?_
    exact ev_ireturn (pc := 120) rfl rfl (qRI_eq h94) dX7_goThrough_120
theorem e_X7_goThrough_9 {X : gk_X} {F : Nat} {dg : Nat} {g : gk_S → Nat → Int32 → Int32 → Int32 → Option (Int32 × gk_S)} (hg : ∀ (S : gk_S) (q0 : Nat) (q1 : Int32) (q2 : Int32) (q3 : Int32) (r : Int32 × gk_S), g S q0 q1 q2 q3 = some r → EvM X m_X7_descend dg 0 0 [.ref q0, .int q1, .int q2, .int q3] S (qRI r)) : ∀ (n : Nat) (l0 : Nat) (l1 : Int32) (l2 : Int32) (l3 : Int32) (l4 : Int32) (l5 : Int32) (l6 : Int32) (S : gk_S) (r : (Int32 × gk_S)), f_X7_goThrough_9 F g n l0 l1 l2 l3 l4 l5 l6 S = some r → EvW X m_X7_goThrough (dg + 1) 0 0 9 [some (.ref l0), some (.int l1), some (.int l2), some (.int l3), some (.int l4), some (.int l5), some (.int l6), none, none] [] S (qRI r) := by
  intro n
  induction n with
  | zero => intro l0 l1 l2 l3 l4 l5 l6 S r h0; rw [f_X7_goThrough_9] at h0; cases h0
  | succ n ih =>
    intro l0 l1 l2 l3 l4 l5 l6 S r h0; rw [f_X7_goThrough_9] at h0
    refine ev_iload (pc := 9) (i := 6) rfl dX7_goThrough_9 ?_
    refine ev_aload_n (pc := 11) (i := 0) rfl rfl rfl dX7_goThrough_11 ?_
    obtain ⟨g1, h2⟩ := qk_el h0; clear h0
    obtain ⟨b3, e4, h5⟩ := qP_el h2; clear h2
    refine xv_getP (pc := 12) fn_503 (isb_el g1) e4 gw_168 dX7_goThrough_12 ?_
    refine ev_iload_n (pc := 15) (i := 1) rfl rfl dX7_goThrough_15 ?_
    obtain ⟨g6, h7⟩ := qk_el h5; clear h5
    obtain ⟨g8, h9⟩ := qk_el h7; clear h7
    obtain ⟨x10, e11, h12⟩ := qv_el h9; clear h9
    refine yv_iald (pc := 16) (isb_el g6) (inb_el g8) e11 dX7_goThrough_16 ?_
    refine ev_ic_ge (pc := 17) (tgt := 127) (by decide) dX7_goThrough_17 (fun c13 => ?_) (fun c13 => ?_)
    · replace h12 := qi_t h12 c13
      refine ev_iconst (pc := 127) (v := 0) (by decide) dX7_goThrough_127 ?_
      exact ev_ireturn (pc := 128) rfl rfl (qRI_eq h12) dX7_goThrough_128
    · replace h12 := qi_f h12 c13
      refine ev_iload (pc := 20) (i := 6) rfl dX7_goThrough_20 ?_
      refine ev_bipush (pc := 22) (v := 65) (by decide) dX7_goThrough_22 ?_
      refine ev_ic_ge (pc := 24) (tgt := 127) (by decide) dX7_goThrough_24 (fun c15 => ?_) (fun c15 => ?_)
      · replace h12 := qi_t h12 c15
        refine ev_iconst (pc := 127) (v := 0) (by decide) dX7_goThrough_127 ?_
        exact ev_ireturn (pc := 128) rfl rfl (qRI_eq h12) dX7_goThrough_128
      · replace h12 := qi_f h12 c15
        refine ev_iload_n (pc := 27) (i := 2) rfl rfl dX7_goThrough_27 ?_
        refine ev_aload_n (pc := 28) (i := 0) rfl rfl rfl dX7_goThrough_28 ?_
        obtain ⟨b17, e18, h19⟩ := qP_el h12; clear h12
        refine xv_getP (pc := 29) fn_502 (isb_el g1) e18 gw_167 dX7_goThrough_29 ?_
        refine ev_iload_n (pc := 32) (i := 1) rfl rfl dX7_goThrough_32 ?_
        obtain ⟨g20, h21⟩ := qk_el h19; clear h19
        obtain ⟨g22, h23⟩ := qk_el h21; clear h21
        obtain ⟨b24, e25, h26⟩ := qP_el h23; clear h23
        refine yv_aald (pc := 33) (isb_el g20) (by decide) (inb_el g22) e25 dX7_goThrough_33 ?_
        refine ev_iload (pc := 34) (i := 6) rfl dX7_goThrough_34 ?_
        obtain ⟨g27, h28⟩ := qk_el h26; clear h26
        obtain ⟨g29, h30⟩ := qk_el h28; clear h28
        obtain ⟨x31, e32, h33⟩ := qv_el h30; clear h30
        refine yv_iald (pc := 36) (isb_el g27) (inb_el g29) e32 dX7_goThrough_36 ?_
        refine ev_ldc (pc := 37) (v := 65535) gw_870 dX7_goThrough_37 ?_
        refine ev_iand (pc := 39)  dX7_goThrough_39 ?_
        refine ev_ldc (pc := 40) (v := 196608) gw_883 dX7_goThrough_40 ?_
        refine ev_ior (pc := 42)  dX7_goThrough_42 ?_
        refine ev_iand (pc := 43)  dX7_goThrough_43 ?_
        obtain ⟨x34, e35, h36⟩ := qv_el h33; clear h33
        refine xv_top e35 ?_
        refine ev_istore (pc := 44) (L' := [some (.ref l0), some (.int l1), some (.int l2), some (.int l3), some (.int l4), some (.int l5), some (.int l6), some (.int x34), none]) (i := 7) (by decide) rfl rfl dX7_goThrough_44 ?_
        refine ev_iload_n (pc := 46) (i := 3) rfl rfl dX7_goThrough_46 ?_
        refine ev_aload_n (pc := 47) (i := 0) rfl rfl rfl dX7_goThrough_47 ?_
        obtain ⟨b37, e38, h39⟩ := qP_el h36; clear h36
        refine xv_getP (pc := 48) fn_502 (isb_el g1) e38 gw_167 dX7_goThrough_48 ?_
        refine ev_iload_n (pc := 51) (i := 1) rfl rfl dX7_goThrough_51 ?_
        obtain ⟨g40, h41⟩ := qk_el h39; clear h39
        obtain ⟨g42, h43⟩ := qk_el h41; clear h41
        obtain ⟨b44, e45, h46⟩ := qP_el h43; clear h43
        refine yv_aald (pc := 52) (isb_el g40) (by decide) (inb_el g42) e45 dX7_goThrough_52 ?_
        refine ev_iload (pc := 53) (i := 6) rfl dX7_goThrough_53 ?_
        obtain ⟨g47, h48⟩ := qk_el h46; clear h46
        obtain ⟨g49, h50⟩ := qk_el h48; clear h48
        obtain ⟨x51, e52, h53⟩ := qv_el h50; clear h50
        refine yv_iald (pc := 55) (isb_el g47) (inb_el g49) e52 dX7_goThrough_55 ?_
        refine ev_bipush (pc := 56) (v := 16) (by decide) dX7_goThrough_56 ?_
        refine ev_iushr (pc := 58)  dX7_goThrough_58 ?_
        obtain ⟨x54, e55, h56⟩ := qv_el h53; clear h53
        refine xv_top e55 ?_
        refine ev_ldc (pc := 59) (v := 196608) gw_883 dX7_goThrough_59 ?_
        refine ev_ior (pc := 61)  dX7_goThrough_61 ?_
        refine ev_iand (pc := 62)  dX7_goThrough_62 ?_
        obtain ⟨x57, e58, h59⟩ := qv_el h56; clear h56
        refine xv_top e58 ?_
        refine ev_istore (pc := 63) (L' := [some (.ref l0), some (.int l1), some (.int l2), some (.int l3), some (.int l4), some (.int l5), some (.int l6), some (.int x34), some (.int x57)]) (i := 8) (by decide) rfl rfl dX7_goThrough_63 ?_
        refine ev_iload (pc := 65) (i := 7) rfl dX7_goThrough_65 ?_
        refine ev_iload (pc := 67) (i := 4) rfl dX7_goThrough_67 ?_
        refine ev_ic_ne (pc := 69) (tgt := 82) (by decide) dX7_goThrough_69 (fun c60 => ?_) (fun c60 => ?_)
        · replace h59 := qi_f h59 c60
          exact ev_weak (qL_s (qL_s (qL_s (qL_s (qL_n (qL_n (qL_s (qL_s (qL_s qL_nil))))))))) (e_X7_goThrough_82 hg ih h59)
        · replace h59 := qi_t h59 c60
          refine ev_iload (pc := 72) (i := 8) rfl dX7_goThrough_72 ?_
          refine ev_iload (pc := 74) (i := 5) rfl dX7_goThrough_74 ?_
          refine ev_ic_ne (pc := 76) (tgt := 82) (by decide) dX7_goThrough_76 (fun c97 => ?_) (fun c97 => ?_)
          · replace h59 := qi_f h59 c97
            exact ev_weak (qL_s (qL_s (qL_s (qL_s (qL_n (qL_n (qL_s (qL_s (qL_s qL_nil))))))))) (e_X7_goThrough_82 hg ih h59)
          · replace h59 := qi_t h59 c97
            refine ev_goto (pc := 79) (tgt := 121) (by decide) dX7_goThrough_79 ?_
            refine ev_iinc (pc := 121) (L' := [some (.ref l0), some (.int l1), some (.int l2), some (.int l3), some (.int l4), some (.int l5), some (.int (l6 + 1)), some (.int x34), some (.int x57)]) (i := 6) (v := (l6 + 1)) rfl rfl (by decide) rfl rfl dX7_goThrough_121 ?_
            refine ev_goto (pc := 124) (tgt := 9) (by decide) dX7_goThrough_124 ?_
            exact (ev_weak (qL_s (qL_s (qL_s (qL_s (qL_s (qL_s (qL_s (qL_n (qL_n qL_nil))))))))) (ih _ _ _ _ _ _ _ _ _ h59))
theorem e_X7_goThrough {X : gk_X} {F : Nat} {dg : Nat} {g : gk_S → Nat → Int32 → Int32 → Int32 → Option (Int32 × gk_S)} (hg : ∀ (S : gk_S) (q0 : Nat) (q1 : Int32) (q2 : Int32) (q3 : Int32) (r : Int32 × gk_S), g S q0 q1 q2 q3 = some r → EvM X m_X7_descend dg 0 0 [.ref q0, .int q1, .int q2, .int q3] S (qRI r)) {S : gk_S} {a : Nat} {p0 : Int32} {p1 : Int32} {p2 : Int32} {r : (Int32 × gk_S)} (h0 : f_X7_goThrough F g S a p0 p1 p2 = some r) : EvM X m_X7_goThrough (dg + 1) 0 0 [.ref a, .int p0, .int p1, .int p2] S (qRI r) := by
  unfold f_X7_goThrough at h0
  refine ev_method (by decide +kernel) rfl rfl (Nat.le_of_ble_eq_true rfl) ?_
  show EvW X m_X7_goThrough (dg + 1) 0 0 0 [some (.ref a), some (.int p0), some (.int p1), some (.int p2), none, none, none, none, none] [] S _
  refine ev_iconst (pc := 0) (v := -1) (by decide) dX7_goThrough_0 ?_
  refine ev_istore (pc := 1) (L' := [some (.ref a), some (.int p0), some (.int p1), some (.int p2), some (.int (-1)), none, none, none, none]) (i := 4) (by decide) rfl rfl dX7_goThrough_1 ?_
  refine ev_iconst (pc := 3) (v := -1) (by decide) dX7_goThrough_3 ?_
  refine ev_istore (pc := 4) (L' := [some (.ref a), some (.int p0), some (.int p1), some (.int p2), some (.int (-1)), some (.int (-1)), none, none, none]) (i := 5) (by decide) rfl rfl dX7_goThrough_4 ?_
  refine ev_iconst (pc := 6) (v := 0) (by decide) dX7_goThrough_6 ?_
  refine ev_istore (pc := 7) (L' := [some (.ref a), some (.int p0), some (.int p1), some (.int p2), some (.int (-1)), some (.int (-1)), some (.int 0), none, none]) (i := 6) (by decide) rfl rfl dX7_goThrough_7 ?_
  exact ev_weak (qL_s (qL_s (qL_s (qL_s (qL_s (qL_s (qL_s (qL_n (qL_n qL_nil))))))))) (e_X7_goThrough_9 hg F _ _ _ _ _ _ _ _ _ h0)
