theorem dX5_matchAll_0 : decode cX5_matchAll 0 = .ok (.iconst 0, 1) := by decide +kernel
theorem dX5_matchAll_1 : decode cX5_matchAll 1 = .ok (.istore_n 2, 1) := by decide +kernel
theorem dX5_matchAll_2 : decode cX5_matchAll 2 = .ok (.iload_n 2, 1) := by decide +kernel
theorem dX5_matchAll_3 : decode cX5_matchAll 3 = .ok (.bipush 6, 2) := by decide +kernel
theorem dX5_matchAll_5 : decode cX5_matchAll 5 = .ok (.if_icmp .ge 27, 3) := by decide +kernel
theorem dX5_matchAll_8 : decode cX5_matchAll 8 = .ok (.aload_n 0, 1) := by decide +kernel
theorem dX5_matchAll_9 : decode cX5_matchAll 9 = .ok (.getfield 9, 3) := by decide +kernel
theorem dX5_matchAll_12 : decode cX5_matchAll 12 = .ok (.iload_n 2, 1) := by decide +kernel
theorem dX5_matchAll_13 : decode cX5_matchAll 13 = .ok (.lconst 0, 1) := by decide +kernel
theorem dX5_matchAll_14 : decode cX5_matchAll 14 = .ok (.lastore, 1) := by decide +kernel
theorem dX5_matchAll_15 : decode cX5_matchAll 15 = .ok (.aload_n 0, 1) := by decide +kernel
theorem dX5_matchAll_16 : decode cX5_matchAll 16 = .ok (.getfield 15, 3) := by decide +kernel
theorem dX5_matchAll_19 : decode cX5_matchAll 19 = .ok (.iload_n 2, 1) := by decide +kernel
theorem dX5_matchAll_20 : decode cX5_matchAll 20 = .ok (.getstatic 28, 3) := by decide +kernel
theorem dX5_matchAll_23 : decode cX5_matchAll 23 = .ok (.iload_n 2, 1) := by decide +kernel
theorem dX5_matchAll_24 : decode cX5_matchAll 24 = .ok (.laload, 1) := by decide +kernel
theorem dX5_matchAll_25 : decode cX5_matchAll 25 = .ok (.lastore, 1) := by decide +kernel
theorem dX5_matchAll_26 : decode cX5_matchAll 26 = .ok (.iinc 2 1, 3) := by decide +kernel
theorem dX5_matchAll_29 : decode cX5_matchAll 29 = .ok (.goto (-27), 3) := by decide +kernel
theorem dX5_matchAll_32 : decode cX5_matchAll 32 = .ok (.aload_n 0, 1) := by decide +kernel
theorem dX5_matchAll_33 : decode cX5_matchAll 33 = .ok (.bipush 15, 2) := by decide +kernel
theorem dX5_matchAll_35 : decode cX5_matchAll 35 = .ok (.putfield 18, 3) := by decide +kernel
theorem dX5_matchAll_38 : decode cX5_matchAll 38 = .ok (.aload_n 0, 1) := by decide +kernel
theorem dX5_matchAll_39 : decode cX5_matchAll 39 = .ok (.iload_n 1, 1) := by decide +kernel
theorem dX5_matchAll_40 : decode cX5_matchAll 40 = .ok (.putfield 22, 3) := by decide +kernel
theorem dX5_matchAll_43 : decode cX5_matchAll 43 = .ok (.aload_n 0, 1) := by decide +kernel
theorem dX5_matchAll_44 : decode cX5_matchAll 44 = .ok (.iconst 0, 1) := by decide +kernel
theorem dX5_matchAll_45 : decode cX5_matchAll 45 = .ok (.putfield 25, 3) := by decide +kernel
theorem dX5_matchAll_48 : decode cX5_matchAll 48 = .ok (.return_, 1) := by decide +kernel
def f_X5_matchAll_2 (F : Nat) : Nat → Nat → Int32 → Int32 → gk_S → Option (Unit × gk_S)
  | 0, _, _, _, _ => none
  | n + 1, l0, l1, l2, S => if (6 : Int32) ≤ l2 then (qk (isb S l0 3) <| qv (sI S 302 l0 15) fun S5 => qv (sI S5 303 l0 l1) fun S8 => qv (sI S8 304 l0 0) fun S11 => some ((), S11)) else qk (isb S l0 3) <| qP (gP S 300 l0) fun b16 => qk (isb S b16 12) <| qk (inb l2 (gL S b16)) <| qv (wJ S b16 l2 0) fun S23 => qP (gP S23 301 l0) fun b26 => qk (inb l2 7) <| qk (isb S23 b26 12) <| qk (inb l2 (gL S23 b26)) <| qv (wJ S23 b26 l2 (gk_tops (l2 : Int32).toNatClampNeg)) fun S35 => f_X5_matchAll_2 F n l0 l1 (l2 + 1) S35
theorem e_X5_matchAll_2 {X : gk_X} {F : Nat} : ∀ (n : Nat) (l0 : Nat) (l1 : Int32) (l2 : Int32) (S : gk_S) (r : (Unit × gk_S)), f_X5_matchAll_2 F n l0 l1 l2 S = some r → EvW X m_X5_matchAll 1 0 0 2 [some (.ref l0), some (.int l1), some (.int l2)] [] S (qRU r) := by
  intro n
  induction n with
  | zero => intro l0 l1 l2 S r h0; rw [f_X5_matchAll_2] at h0; cases h0
  | succ n ih =>
    intro l0 l1 l2 S r h0; rw [f_X5_matchAll_2] at h0
    refine ev_iload_n (pc := 2) (i := 2) rfl rfl dX5_matchAll_2 ?_
    refine ev_bipush (pc := 3) (v := 6) (by decide) dX5_matchAll_3 ?_
    refine ev_ic_ge (pc := 5) (tgt := 32) (by decide) dX5_matchAll_5 (fun c1 => ?_) (fun c1 => ?_)
    · replace h0 := qi_t h0 c1
      refine ev_aload_n (pc := 32) (i := 0) rfl rfl rfl dX5_matchAll_32 ?_
      refine ev_bipush (pc := 33) (v := 15) (by decide) dX5_matchAll_33 ?_
      obtain ⟨g3, h4⟩ := qk_el h0; clear h0
      obtain ⟨S5, e6, h7⟩ := qv_el h4; clear h4
      refine yv_putI (pc := 35) fn_302 ⟨rfl, rfl⟩ (isb_el g3) e6 gw_70 dX5_matchAll_35 ?_
      refine ev_aload_n (pc := 38) (i := 0) rfl rfl rfl dX5_matchAll_38 ?_
      refine ev_iload_n (pc := 39) (i := 1) rfl rfl dX5_matchAll_39 ?_
      obtain ⟨S8, e9, h10⟩ := qv_el h7; clear h7
      refine yv_putI (pc := 40) fn_303 ⟨rfl, rfl⟩ (is_sI (isb_el g3) e6) e9 gw_72 dX5_matchAll_40 ?_
      refine ev_aload_n (pc := 43) (i := 0) rfl rfl rfl dX5_matchAll_43 ?_
      refine ev_iconst (pc := 44) (v := 0) (by decide) dX5_matchAll_44 ?_
      obtain ⟨S11, e12, h13⟩ := qv_el h10; clear h10
      refine yv_putI (pc := 45) fn_304 ⟨rfl, rfl⟩ (is_sI (is_sI (isb_el g3) e6) e9) e12 gw_76 dX5_matchAll_45 ?_
      exact ev_return (pc := 48) rfl (by cases h13; rfl) dX5_matchAll_48
    · replace h0 := qi_f h0 c1
      refine ev_aload_n (pc := 8) (i := 0) rfl rfl rfl dX5_matchAll_8 ?_
      obtain ⟨g14, h15⟩ := qk_el h0; clear h0
      obtain ⟨b16, e17, h18⟩ := qP_el h15; clear h15
      refine xv_getP (pc := 9) fn_300 (isb_el g14) e17 gw_64 dX5_matchAll_9 ?_
      refine ev_iload_n (pc := 12) (i := 2) rfl rfl dX5_matchAll_12 ?_
      refine ev_lconst (pc := 13) (v := 0) (by decide) dX5_matchAll_13 ?_
      obtain ⟨g19, h20⟩ := qk_el h18; clear h18
      obtain ⟨g21, h22⟩ := qk_el h20; clear h20
      obtain ⟨S23, e24, h25⟩ := qv_el h22; clear h22
      refine yv_last (pc := 14) (isb_el g19) (inb_el g21) e24 dX5_matchAll_14 ?_
      refine ev_aload_n (pc := 15) (i := 0) rfl rfl rfl dX5_matchAll_15 ?_
      obtain ⟨b26, e27, h28⟩ := qP_el h25; clear h25
      refine xv_getP (pc := 16) fn_301 (is_wJ (isb_el g14) e24) e27 gw_67 dX5_matchAll_16 ?_
      refine ev_iload_n (pc := 19) (i := 2) rfl rfl dX5_matchAll_19 ?_
      refine ev_getsTN (pc := 20) (by decide +kernel) dX5_matchAll_20 ?_
      refine ev_iload_n (pc := 23) (i := 2) rfl rfl dX5_matchAll_23 ?_
      obtain ⟨g29, h30⟩ := qk_el h28; clear h28
      refine ev_caldT (pc := 24) (inb_el g29) dX5_matchAll_24 ?_
      obtain ⟨g31, h32⟩ := qk_el h30; clear h30
      obtain ⟨g33, h34⟩ := qk_el h32; clear h32
      obtain ⟨S35, e36, h37⟩ := qv_el h34; clear h34
      refine yv_last (pc := 25) (isb_el g31) (inb_el g33) e36 dX5_matchAll_25 ?_
      refine ev_iinc (pc := 26) (L' := [some (.ref l0), some (.int l1), some (.int (l2 + 1))]) (i := 2) (v := (l2 + 1)) rfl rfl (by decide) rfl rfl dX5_matchAll_26 ?_
      refine ev_goto (pc := 29) (tgt := 2) (by decide) dX5_matchAll_29 ?_
      exact (ev_weak (qL_s (qL_s (qL_s qL_nil))) (ih _ _ _ _ _ h37))
def f_X5_matchAll (F : Nat) (S : gk_S) (a : Nat) (p0 : Int32) : Option (Unit × gk_S) := f_X5_matchAll_2 F F a p0 0 S
theorem e_X5_matchAll {X : gk_X} {F : Nat} {S : gk_S} {a : Nat} {p0 : Int32} {r : (Unit × gk_S)} (h0 : f_X5_matchAll F S a p0 = some r) : EvM X m_X5_matchAll 1 0 0 [.ref a, .int p0] S (qRU r) := by
  unfold f_X5_matchAll at h0
  refine ev_method (by decide +kernel) rfl rfl (Nat.le_of_ble_eq_true rfl) ?_
  show EvW X m_X5_matchAll 1 0 0 0 [some (.ref a), some (.int p0), none] [] S _
  refine ev_iconst (pc := 0) (v := 0) (by decide) dX5_matchAll_0 ?_
  refine ev_istore_n (pc := 1) (L' := [some (.ref a), some (.int p0), some (.int 0)]) (i := 2) rfl (by decide) rfl rfl dX5_matchAll_1 ?_
  exact ev_weak (qL_s (qL_s (qL_s qL_nil))) (e_X5_matchAll_2 F _ _ _ _ _ h0)
theorem dX9_takeRule_0 : decode cX9_takeRule 0 = .ok (.aload_n 0, 1) := by decide +kernel
theorem dX9_takeRule_1 : decode cX9_takeRule 1 = .ok (.getfield 22, 3) := by decide +kernel
theorem dX9_takeRule_4 : decode cX9_takeRule 4 = .ok (.sipush 256, 3) := by decide +kernel
theorem dX9_takeRule_7 : decode cX9_takeRule 7 = .ok (.if_icmp .ne 9, 3) := by decide +kernel
theorem dX9_takeRule_10 : decode cX9_takeRule 10 = .ok (.aload_n 0, 1) := by decide +kernel
theorem dX9_takeRule_11 : decode cX9_takeRule 11 = .ok (.iconst 0, 1) := by decide +kernel
theorem dX9_takeRule_12 : decode cX9_takeRule 12 = .ok (.invokevirtual 65, 3) := by decide +kernel
theorem dX9_takeRule_15 : decode cX9_takeRule 15 = .ok (.ireturn, 1) := by decide +kernel
theorem dX9_takeRule_16 : decode cX9_takeRule 16 = .ok (.aload_n 0, 1) := by decide +kernel
theorem dX9_takeRule_17 : decode cX9_takeRule 17 = .ok (.invokevirtual 102, 3) := by decide +kernel
theorem dX9_takeRule_20 : decode cX9_takeRule 20 = .ok (.istore_n 2, 1) := by decide +kernel
theorem dX9_takeRule_21 : decode cX9_takeRule 21 = .ok (.iload_n 2, 1) := by decide +kernel
theorem dX9_takeRule_22 : decode cX9_takeRule 22 = .ok (.iconst (-1), 1) := by decide +kernel
theorem dX9_takeRule_23 : decode cX9_takeRule 23 = .ok (.if_icmp .ne 5, 3) := by decide +kernel
theorem dX9_takeRule_26 : decode cX9_takeRule 26 = .ok (.iconst 2, 1) := by decide +kernel
theorem dX9_takeRule_27 : decode cX9_takeRule 27 = .ok (.ireturn, 1) := by decide +kernel
theorem dX9_takeRule_28 : decode cX9_takeRule 28 = .ok (.aload_n 1, 1) := by decide +kernel
theorem dX9_takeRule_29 : decode cX9_takeRule 29 = .ok (.getfield 75, 3) := by decide +kernel
theorem dX9_takeRule_32 : decode cX9_takeRule 32 = .ok (.bipush 16, 2) := by decide +kernel
theorem dX9_takeRule_34 : decode cX9_takeRule 34 = .ok (.if_icmp .lt 5, 3) := by decide +kernel
theorem dX9_takeRule_37 : decode cX9_takeRule 37 = .ok (.iconst 4, 1) := by decide +kernel
theorem dX9_takeRule_38 : decode cX9_takeRule 38 = .ok (.ireturn, 1) := by decide +kernel
theorem dX9_takeRule_39 : decode cX9_takeRule 39 = .ok (.aload_n 1, 1) := by decide +kernel
theorem dX9_takeRule_40 : decode cX9_takeRule 40 = .ok (.aload_n 1, 1) := by decide +kernel
theorem dX9_takeRule_41 : decode cX9_takeRule 41 = .ok (.getfield 75, 3) := by decide +kernel
theorem dX9_takeRule_44 : decode cX9_takeRule 44 = .ok (.invokevirtual 78, 3) := by decide +kernel
theorem dX9_takeRule_47 : decode cX9_takeRule 47 = .ok (.iload_n 2, 1) := by decide +kernel
theorem dX9_takeRule_48 : decode cX9_takeRule 48 = .ok (.invokevirtual 108, 3) := by decide +kernel
theorem dX9_takeRule_51 : decode cX9_takeRule 51 = .ok (.aload_n 0, 1) := by decide +kernel
theorem dX9_takeRule_52 : decode cX9_takeRule 52 = .ok (.iconst 0, 1) := by decide +kernel
theorem dX9_takeRule_53 : decode cX9_takeRule 53 = .ok (.putfield 38, 3) := by decide +kernel
theorem dX9_takeRule_56 : decode cX9_takeRule 56 = .ok (.aload_n 0, 1) := by decide +kernel
theorem dX9_takeRule_57 : decode cX9_takeRule 57 = .ok (.iconst 5, 1) := by decide +kernel
theorem dX9_takeRule_58 : decode cX9_takeRule 58 = .ok (.invokevirtual 65, 3) := by decide +kernel
theorem dX9_takeRule_61 : decode cX9_takeRule 61 = .ok (.ireturn, 1) := by decide +kernel
def f_X9_takeRule (F : Nat) (S : gk_S) (a : Nat) (p0 : Nat) : Option (Int32 × gk_S) := qk (isb S a 7) <| qv (gI S 703 a) fun x3 => if x3 = (256 : Int32) then (qc (f_X9_go F S a 0) fun x43 S44 => some (x43, S44)) else qc (f_X9_actionHere F S a) fun x8 S9 => if x8 = ((-1) : Int32) then (some (2, S9)) else qk (isb S9 p0 4) <| qv (gI S9 401 p0) fun x16 => if x16 < (16 : Int32) then (qv (gI S9 401 p0) fun x21 => qc (f_X6_at F S9 p0 x21) fun x24 S25 => qk (isb S25 x24 3) <| qc (f_X5_matchAll F S25 x24 x8) fun x30 S31 => qk (isb S31 a 7) <| qv (sI S31 708 a 0) fun S36 => qc (f_X9_go F S36 a 5) fun x39 S40 => some (x39, S40)) else some (4, S9)
theorem e_X9_takeRule {X : gk_X} {F : Nat} {S : gk_S} {a : Nat} {p0 : Nat} {r : (Int32 × gk_S)} (h0 : f_X9_takeRule F S a p0 = some r) : EvM X m_X9_takeRule 7 0 0 [.ref a, .ref p0] S (qRI r) := by
  unfold f_X9_takeRule at h0
  refine ev_method (by decide +kernel) rfl rfl (Nat.le_of_ble_eq_true rfl) ?_
  show EvW X m_X9_takeRule 7 0 0 0 [some (.ref a), some (.ref p0), none] [] S _
  refine ev_aload_n (pc := 0) (i := 0) rfl rfl rfl dX9_takeRule_0 ?_
  obtain ⟨g1, h2⟩ := qk_el h0; clear h0
  obtain ⟨x3, e4, h5⟩ := qv_el h2; clear h2
  refine xv_getIv (pc := 1) fn_703 (isb_el g1) e4 gw_123 dX9_takeRule_1 ?_
  refine ev_sipush (pc := 4) (v := 256) (by decide) dX9_takeRule_4 ?_
  refine ev_ic_ne (pc := 7) (tgt := 16) (by decide) dX9_takeRule_7 (fun c6 => ?_) (fun c6 => ?_)
  · replace h5 := qi_f h5 c6
    refine ev_aload_n (pc := 16) (i := 0) rfl rfl rfl dX9_takeRule_16 ?_
    obtain ⟨x8, S9, e10, h11⟩ := qc_el h5; clear h5
    refine xv_callV (pc := 17) (st := []) (as := []) (v := (some (.int x8))) (S' := S9) ok_X9_actionHere (e_X9_actionHere e10) (isb_el g1) (by decide) rfl (Nat.le_of_ble_eq_true rfl) rfl gw_563 dX9_takeRule_17 ?_
    refine ev_istore_n (pc := 20) (L' := [some (.ref a), some (.ref p0), some (.int x8)]) (i := 2) rfl (by decide) rfl rfl dX9_takeRule_20 ?_
    refine ev_iload_n (pc := 21) (i := 2) rfl rfl dX9_takeRule_21 ?_
    refine ev_iconst (pc := 22) (v := -1) (by decide) dX9_takeRule_22 ?_
    refine ev_ic_ne (pc := 23) (tgt := 28) (by decide) dX9_takeRule_23 (fun c12 => ?_) (fun c12 => ?_)
    · replace h11 := qi_f h11 c12
      refine ev_aload_n (pc := 28) (i := 1) rfl rfl rfl dX9_takeRule_28 ?_
      obtain ⟨g14, h15⟩ := qk_el h11; clear h11
      obtain ⟨x16, e17, h18⟩ := qv_el h15; clear h15
      refine xv_getIv (pc := 29) fn_401 (isb_el g14) e17 gw_94 dX9_takeRule_29 ?_
      refine ev_bipush (pc := 32) (v := 16) (by decide) dX9_takeRule_32 ?_
      refine ev_ic_lt (pc := 34) (tgt := 39) (by decide) dX9_takeRule_34 (fun c19 => ?_) (fun c19 => ?_)
      · replace h18 := qi_t h18 c19
        refine ev_aload_n (pc := 39) (i := 1) rfl rfl rfl dX9_takeRule_39 ?_
        refine ev_aload_n (pc := 40) (i := 1) rfl rfl rfl dX9_takeRule_40 ?_
        obtain ⟨x21, e22, h23⟩ := qv_el h18; clear h18
        refine xv_getIv (pc := 41) fn_401 (isb_el g14) e22 gw_94 dX9_takeRule_41 ?_
        obtain ⟨x24, S25, e26, h27⟩ := qc_el h23; clear h23
        refine xv_callV (pc := 44) (st := []) (as := [.int x21]) (v := (some (.ref x24))) (S' := S25) ok_X6_at (e_X6_at e26) (isb_el g14) (by decide) rfl (Nat.le_of_ble_eq_true rfl) rfl gw_573 dX9_takeRule_44 ?_
        refine ev_iload_n (pc := 47) (i := 2) rfl rfl dX9_takeRule_47 ?_
        obtain ⟨g28, h29⟩ := qk_el h27; clear h27
        obtain ⟨x30, S31, e32, h33⟩ := qc_el h29; clear h29
        refine xv_callV (pc := 48) (st := []) (as := [.int x8]) (v := none) (S' := S31) ok_X5_matchAll (e_X5_matchAll e32) (isb_el g28) (by decide) rfl (Nat.le_of_ble_eq_true rfl) rfl gw_577 dX9_takeRule_48 ?_
        refine ev_aload_n (pc := 51) (i := 0) rfl rfl rfl dX9_takeRule_51 ?_
        refine ev_iconst (pc := 52) (v := 0) (by decide) dX9_takeRule_52 ?_
        obtain ⟨g34, h35⟩ := qk_el h33; clear h33
        obtain ⟨S36, e37, h38⟩ := qv_el h35; clear h35
        refine yv_putI (pc := 53) fn_708 ⟨rfl, rfl⟩ (isb_el g34) e37 gw_128 dX9_takeRule_53 ?_
        refine ev_aload_n (pc := 56) (i := 0) rfl rfl rfl dX9_takeRule_56 ?_
        refine ev_iconst (pc := 57) (v := 5) (by decide) dX9_takeRule_57 ?_
        obtain ⟨x39, S40, e41, h42⟩ := qc_el h38; clear h38
        refine xv_callV (pc := 58) (st := []) (as := [.int 5]) (v := (some (.int x39))) (S' := S40) ok_X9_go (e_X9_go e41) (is_sI (isb_el g34) e37) (by decide) rfl (Nat.le_of_ble_eq_true rfl) rfl gw_555 dX9_takeRule_58 ?_
        exact ev_ireturn (pc := 61) rfl rfl (by cases h42; rfl) dX9_takeRule_61
      · replace h18 := qi_f h18 c19
        refine ev_iconst (pc := 37) (v := 4) (by decide) dX9_takeRule_37 ?_
        exact ev_ireturn (pc := 38) rfl rfl (by cases h18; rfl) dX9_takeRule_38
    · replace h11 := qi_t h11 c12
      refine ev_iconst (pc := 26) (v := 2) (by decide) dX9_takeRule_26 ?_
      exact ev_ireturn (pc := 27) rfl rfl (by cases h11; rfl) dX9_takeRule_27
  · replace h5 := qi_t h5 c6
    refine ev_aload_n (pc := 10) (i := 0) rfl rfl rfl dX9_takeRule_10 ?_
    refine ev_iconst (pc := 11) (v := 0) (by decide) dX9_takeRule_11 ?_
    obtain ⟨x43, S44, e45, h46⟩ := qc_el h5; clear h5
    refine xv_callV (pc := 12) (st := []) (as := [.int 0]) (v := (some (.int x43))) (S' := S44) ok_X9_go (e_X9_go e45) (isb_el g1) (by decide) rfl (Nat.le_of_ble_eq_true rfl) rfl gw_555 dX9_takeRule_12 ?_
    exact ev_ireturn (pc := 15) rfl rfl (by cases h46; rfl) dX9_takeRule_15
theorem dX9_takePolicy_0 : decode cX9_takePolicy 0 = .ok (.aload_n 0, 1) := by decide +kernel
theorem dX9_takePolicy_1 : decode cX9_takePolicy 1 = .ok (.invokevirtual 102, 3) := by decide +kernel
theorem dX9_takePolicy_4 : decode cX9_takePolicy 4 = .ok (.istore_n 2, 1) := by decide +kernel
theorem dX9_takePolicy_5 : decode cX9_takePolicy 5 = .ok (.iload_n 2, 1) := by decide +kernel
theorem dX9_takePolicy_6 : decode cX9_takePolicy 6 = .ok (.iconst (-1), 1) := by decide +kernel
theorem dX9_takePolicy_7 : decode cX9_takePolicy 7 = .ok (.if_icmp .ne 5, 3) := by decide +kernel
theorem dX9_takePolicy_10 : decode cX9_takePolicy 10 = .ok (.iconst 2, 1) := by decide +kernel
theorem dX9_takePolicy_11 : decode cX9_takePolicy 11 = .ok (.ireturn, 1) := by decide +kernel
theorem dX9_takePolicy_12 : decode cX9_takePolicy 12 = .ok (.aload_n 1, 1) := by decide +kernel
theorem dX9_takePolicy_13 : decode cX9_takePolicy 13 = .ok (.iload_n 2, 1) := by decide +kernel
theorem dX9_takePolicy_14 : decode cX9_takePolicy 14 = .ok (.putfield 106, 3) := by decide +kernel
theorem dX9_takePolicy_17 : decode cX9_takePolicy 17 = .ok (.aload_n 0, 1) := by decide +kernel
theorem dX9_takePolicy_18 : decode cX9_takePolicy 18 = .ok (.iconst 3, 1) := by decide +kernel
theorem dX9_takePolicy_19 : decode cX9_takePolicy 19 = .ok (.invokevirtual 65, 3) := by decide +kernel
theorem dX9_takePolicy_22 : decode cX9_takePolicy 22 = .ok (.ireturn, 1) := by decide +kernel
def f_X9_takePolicy (F : Nat) (S : gk_S) (a : Nat) (p0 : Nat) : Option (Int32 × gk_S) := qk (isb S a 7) <| qc (f_X9_actionHere F S a) fun x3 S4 => if x3 = ((-1) : Int32) then (some (2, S4)) else qk (isb S4 p0 4) <| qv (sI S4 402 p0 x3) fun S11 => qk (isb S11 a 7) <| qc (f_X9_go F S11 a 3) fun x16 S17 => some (x16, S17)
theorem e_X9_takePolicy {X : gk_X} {F : Nat} {S : gk_S} {a : Nat} {p0 : Nat} {r : (Int32 × gk_S)} (h0 : f_X9_takePolicy F S a p0 = some r) : EvM X m_X9_takePolicy 7 0 0 [.ref a, .ref p0] S (qRI r) := by
  unfold f_X9_takePolicy at h0
  refine ev_method (by decide +kernel) rfl rfl (Nat.le_of_ble_eq_true rfl) ?_
  show EvW X m_X9_takePolicy 7 0 0 0 [some (.ref a), some (.ref p0), none] [] S _
  refine ev_aload_n (pc := 0) (i := 0) rfl rfl rfl dX9_takePolicy_0 ?_
  obtain ⟨g1, h2⟩ := qk_el h0; clear h0
  obtain ⟨x3, S4, e5, h6⟩ := qc_el h2; clear h2
  refine xv_callV (pc := 1) (st := []) (as := []) (v := (some (.int x3))) (S' := S4) ok_X9_actionHere (e_X9_actionHere e5) (isb_el g1) (by decide) rfl (Nat.le_of_ble_eq_true rfl) rfl gw_563 dX9_takePolicy_1 ?_
  refine ev_istore_n (pc := 4) (L' := [some (.ref a), some (.ref p0), some (.int x3)]) (i := 2) rfl (by decide) rfl rfl dX9_takePolicy_4 ?_
  refine ev_iload_n (pc := 5) (i := 2) rfl rfl dX9_takePolicy_5 ?_
  refine ev_iconst (pc := 6) (v := -1) (by decide) dX9_takePolicy_6 ?_
  refine ev_ic_ne (pc := 7) (tgt := 12) (by decide) dX9_takePolicy_7 (fun c7 => ?_) (fun c7 => ?_)
  · replace h6 := qi_f h6 c7
    refine ev_aload_n (pc := 12) (i := 1) rfl rfl rfl dX9_takePolicy_12 ?_
    refine ev_iload_n (pc := 13) (i := 2) rfl rfl dX9_takePolicy_13 ?_
    obtain ⟨g9, h10⟩ := qk_el h6; clear h6
    obtain ⟨S11, e12, h13⟩ := qv_el h10; clear h10
    refine yv_putI (pc := 14) fn_402 ⟨rfl, rfl⟩ (isb_el g9) e12 gw_99 dX9_takePolicy_14 ?_
    refine ev_aload_n (pc := 17) (i := 0) rfl rfl rfl dX9_takePolicy_17 ?_
    refine ev_iconst (pc := 18) (v := 3) (by decide) dX9_takePolicy_18 ?_
    obtain ⟨g14, h15⟩ := qk_el h13; clear h13
    obtain ⟨x16, S17, e18, h19⟩ := qc_el h15; clear h15
    refine xv_callV (pc := 19) (st := []) (as := [.int 3]) (v := (some (.int x16))) (S' := S17) ok_X9_go (e_X9_go e18) (isb_el g14) (by decide) rfl (Nat.le_of_ble_eq_true rfl) rfl gw_555 dX9_takePolicy_19 ?_
    exact ev_ireturn (pc := 22) rfl rfl (by cases h19; rfl) dX9_takePolicy_22
  · replace h6 := qi_t h6 c7
    refine ev_iconst (pc := 10) (v := 2) (by decide) dX9_takePolicy_10 ?_
    exact ev_ireturn (pc := 11) rfl rfl (by cases h6; rfl) dX9_takePolicy_11
theorem dX5_setRange_0 : decode cX5_setRange 0 = .ok (.iload_n 1, 1) := by decide +kernel
theorem dX5_setRange_1 : decode cX5_setRange 1 = .ok (.ifCond .lt 24, 3) := by decide +kernel
theorem dX5_setRange_4 : decode cX5_setRange 4 = .ok (.iload_n 1, 1) := by decide +kernel
theorem dX5_setRange_5 : decode cX5_setRange 5 = .ok (.bipush 6, 2) := by decide +kernel
theorem dX5_setRange_7 : decode cX5_setRange 7 = .ok (.if_icmp .ge 18, 3) := by decide +kernel
theorem dX5_setRange_10 : decode cX5_setRange 10 = .ok (.aload_n 0, 1) := by decide +kernel
theorem dX5_setRange_11 : decode cX5_setRange 11 = .ok (.getfield 9, 3) := by decide +kernel
theorem dX5_setRange_14 : decode cX5_setRange 14 = .ok (.iload_n 1, 1) := by decide +kernel
theorem dX5_setRange_15 : decode cX5_setRange 15 = .ok (.lload_n 2, 1) := by decide +kernel
theorem dX5_setRange_16 : decode cX5_setRange 16 = .ok (.lastore, 1) := by decide +kernel
theorem dX5_setRange_17 : decode cX5_setRange 17 = .ok (.aload_n 0, 1) := by decide +kernel
theorem dX5_setRange_18 : decode cX5_setRange 18 = .ok (.getfield 15, 3) := by decide +kernel
theorem dX5_setRange_21 : decode cX5_setRange 21 = .ok (.iload_n 1, 1) := by decide +kernel
theorem dX5_setRange_22 : decode cX5_setRange 22 = .ok (.lload 4, 2) := by decide +kernel
theorem dX5_setRange_24 : decode cX5_setRange 24 = .ok (.lastore, 1) := by decide +kernel
theorem dX5_setRange_25 : decode cX5_setRange 25 = .ok (.return_, 1) := by decide +kernel
def f_X5_setRange (F : Nat) (S : gk_S) (a : Nat) (p0 : Int32) (p1 : Int64) (p2 : Int64) : Option (Unit × gk_S) := if p0 < (0 : Int32) then (some ((), S)) else if (6 : Int32) ≤ p0 then (some ((), S)) else qk (isb S a 3) <| qP (gP S 300 a) fun b7 => qk (isb S b7 12) <| qk (inb p0 (gL S b7)) <| qv (wJ S b7 p0 p1) fun S14 => qP (gP S14 301 a) fun b17 => qk (isb S14 b17 12) <| qk (inb p0 (gL S14 b17)) <| qv (wJ S14 b17 p0 p2) fun S24 => some ((), S24)
theorem e_X5_setRange {X : gk_X} {F : Nat} {S : gk_S} {a : Nat} {p0 : Int32} {p1 : Int64} {p2 : Int64} {r : (Unit × gk_S)} (h0 : f_X5_setRange F S a p0 p1 p2 = some r) : EvM X m_X5_setRange 1 0 0 [.ref a, .int p0, .long p1, .long p2] S (qRU r) := by
  unfold f_X5_setRange at h0
  refine ev_method (by decide +kernel) rfl rfl (Nat.le_of_ble_eq_true rfl) ?_
  show EvW X m_X5_setRange 1 0 0 0 [some (.ref a), some (.int p0), some (.long p1), none, some (.long p2), none] [] S _
  refine ev_iload_n (pc := 0) (i := 1) rfl rfl dX5_setRange_0 ?_
  refine ev_if_lt (pc := 1) (tgt := 25) (by decide) dX5_setRange_1 (fun c1 => ?_) (fun c1 => ?_)
  · replace h0 := qi_t h0 c1
    exact ev_return (pc := 25) rfl (by cases h0; rfl) dX5_setRange_25
  · replace h0 := qi_f h0 c1
    refine ev_iload_n (pc := 4) (i := 1) rfl rfl dX5_setRange_4 ?_
    refine ev_bipush (pc := 5) (v := 6) (by decide) dX5_setRange_5 ?_
    refine ev_ic_ge (pc := 7) (tgt := 25) (by decide) dX5_setRange_7 (fun c3 => ?_) (fun c3 => ?_)
    · replace h0 := qi_t h0 c3
      exact ev_return (pc := 25) rfl (by cases h0; rfl) dX5_setRange_25
    · replace h0 := qi_f h0 c3
      refine ev_aload_n (pc := 10) (i := 0) rfl rfl rfl dX5_setRange_10 ?_
      obtain ⟨g5, h6⟩ := qk_el h0; clear h0
      obtain ⟨b7, e8, h9⟩ := qP_el h6; clear h6
      refine xv_getP (pc := 11) fn_300 (isb_el g5) e8 gw_64 dX5_setRange_11 ?_
      refine ev_iload_n (pc := 14) (i := 1) rfl rfl dX5_setRange_14 ?_
      refine ev_lload_n (pc := 15) (i := 2) rfl rfl dX5_setRange_15 ?_
      obtain ⟨g10, h11⟩ := qk_el h9; clear h9
      obtain ⟨g12, h13⟩ := qk_el h11; clear h11
      obtain ⟨S14, e15, h16⟩ := qv_el h13; clear h13
      refine yv_last (pc := 16) (isb_el g10) (inb_el g12) e15 dX5_setRange_16 ?_
      refine ev_aload_n (pc := 17) (i := 0) rfl rfl rfl dX5_setRange_17 ?_
      obtain ⟨b17, e18, h19⟩ := qP_el h16; clear h16
      refine xv_getP (pc := 18) fn_301 (is_wJ (isb_el g5) e15) e18 gw_67 dX5_setRange_18 ?_
      refine ev_iload_n (pc := 21) (i := 1) rfl rfl dX5_setRange_21 ?_
      refine ev_lload (pc := 22) (i := 4) rfl dX5_setRange_22 ?_
      obtain ⟨g20, h21⟩ := qk_el h19; clear h19
      obtain ⟨g22, h23⟩ := qk_el h21; clear h21
      obtain ⟨S24, e25, h26⟩ := qv_el h23; clear h23
      refine yv_last (pc := 24) (isb_el g20) (inb_el g22) e25 dX5_setRange_24 ?_
      exact ev_return (pc := 25) rfl (by cases h26; rfl) dX5_setRange_25
theorem dX9_takeProtocol_0 : decode cX9_takeProtocol 0 = .ok (.aload_n 0, 1) := by decide +kernel
theorem dX9_takeProtocol_1 : decode cX9_takeProtocol 1 = .ok (.ldc 134, 2) := by decide +kernel
theorem dX9_takeProtocol_3 : decode cX9_takeProtocol 3 = .ok (.invokevirtual 61, 3) := by decide +kernel
theorem dX9_takeProtocol_6 : decode cX9_takeProtocol 6 = .ok (.ifCond .eq 8, 3) := by decide +kernel
theorem dX9_takeProtocol_9 : decode cX9_takeProtocol 9 = .ok (.bipush 6, 2) := by decide +kernel
theorem dX9_takeProtocol_11 : decode cX9_takeProtocol 11 = .ok (.goto 31, 3) := by decide +kernel
theorem dX9_takeProtocol_14 : decode cX9_takeProtocol 14 = .ok (.aload_n 0, 1) := by decide +kernel
theorem dX9_takeProtocol_15 : decode cX9_takeProtocol 15 = .ok (.ldc 136, 2) := by decide +kernel
theorem dX9_takeProtocol_17 : decode cX9_takeProtocol 17 = .ok (.invokevirtual 61, 3) := by decide +kernel
theorem dX9_takeProtocol_20 : decode cX9_takeProtocol 20 = .ok (.ifCond .eq 8, 3) := by decide +kernel
theorem dX9_takeProtocol_23 : decode cX9_takeProtocol 23 = .ok (.bipush 17, 2) := by decide +kernel
theorem dX9_takeProtocol_25 : decode cX9_takeProtocol 25 = .ok (.goto 17, 3) := by decide +kernel
theorem dX9_takeProtocol_28 : decode cX9_takeProtocol 28 = .ok (.aload_n 0, 1) := by decide +kernel
theorem dX9_takeProtocol_29 : decode cX9_takeProtocol 29 = .ok (.ldc 138, 2) := by decide +kernel
theorem dX9_takeProtocol_31 : decode cX9_takeProtocol 31 = .ok (.invokevirtual 61, 3) := by decide +kernel
theorem dX9_takeProtocol_34 : decode cX9_takeProtocol 34 = .ok (.ifCond .eq 7, 3) := by decide +kernel
theorem dX9_takeProtocol_37 : decode cX9_takeProtocol 37 = .ok (.iconst 1, 1) := by decide +kernel
theorem dX9_takeProtocol_38 : decode cX9_takeProtocol 38 = .ok (.goto 4, 3) := by decide +kernel
theorem dX9_takeProtocol_41 : decode cX9_takeProtocol 41 = .ok (.iconst (-1), 1) := by decide +kernel
theorem dX9_takeProtocol_42 : decode cX9_takeProtocol 42 = .ok (.istore_n 2, 1) := by decide +kernel
theorem dX9_takeProtocol_43 : decode cX9_takeProtocol 43 = .ok (.iload_n 2, 1) := by decide +kernel
theorem dX9_takeProtocol_44 : decode cX9_takeProtocol 44 = .ok (.iconst (-1), 1) := by decide +kernel
theorem dX9_takeProtocol_45 : decode cX9_takeProtocol 45 = .ok (.if_icmp .ne 5, 3) := by decide +kernel
theorem dX9_takeProtocol_48 : decode cX9_takeProtocol 48 = .ok (.iconst 2, 1) := by decide +kernel
theorem dX9_takeProtocol_49 : decode cX9_takeProtocol 49 = .ok (.ireturn, 1) := by decide +kernel
theorem dX9_takeProtocol_50 : decode cX9_takeProtocol 50 = .ok (.aload_n 1, 1) := by decide +kernel
theorem dX9_takeProtocol_51 : decode cX9_takeProtocol 51 = .ok (.iconst 1, 1) := by decide +kernel
theorem dX9_takeProtocol_52 : decode cX9_takeProtocol 52 = .ok (.iload_n 2, 1) := by decide +kernel
theorem dX9_takeProtocol_53 : decode cX9_takeProtocol 53 = .ok (.i2l, 1) := by decide +kernel
theorem dX9_takeProtocol_54 : decode cX9_takeProtocol 54 = .ok (.iload_n 2, 1) := by decide +kernel
theorem dX9_takeProtocol_55 : decode cX9_takeProtocol 55 = .ok (.i2l, 1) := by decide +kernel
theorem dX9_takeProtocol_56 : decode cX9_takeProtocol 56 = .ok (.invokevirtual 130, 3) := by decide +kernel
theorem dX9_takeProtocol_59 : decode cX9_takeProtocol 59 = .ok (.aload_n 0, 1) := by decide +kernel
theorem dX9_takeProtocol_60 : decode cX9_takeProtocol 60 = .ok (.iconst 5, 1) := by decide +kernel
theorem dX9_takeProtocol_61 : decode cX9_takeProtocol 61 = .ok (.invokevirtual 65, 3) := by decide +kernel
theorem dX9_takeProtocol_64 : decode cX9_takeProtocol 64 = .ok (.ireturn, 1) := by decide +kernel
def f_X9_takeProtocol_42 (F : Nat) (l0 : Nat) (l1 : Nat) (s0 : Int32) (S : gk_S) : Option (Int32 × gk_S) := if s0 = ((-1) : Int32) then (some (2, S)) else qk (isb S l1 3) <| qc (f_X5_setRange F S l1 1 ((s0 : Int32).toInt64) ((s0 : Int32).toInt64)) fun x29 S30 => qk (isb S30 l0 7) <| qc (f_X9_go F S30 l0 5) fun x35 S36 => some (x35, S36)
theorem e_X9_takeProtocol_42 {X : gk_X} {F : Nat} {l0 : Nat} {l1 : Nat} {s0 : Int32} {S : gk_S} {r : (Int32 × gk_S)} (h0 : f_X9_takeProtocol_42 F l0 l1 s0 S = some r) : EvW X m_X9_takeProtocol 6 0 0 42 [some (.ref l0), some (.ref l1), none] [.int s0] S (qRI r) := by
  unfold f_X9_takeProtocol_42 at h0
  refine ev_istore_n (pc := 42) (L' := [some (.ref l0), some (.ref l1), some (.int s0)]) (i := 2) rfl (by decide) rfl rfl dX9_takeProtocol_42 ?_
  refine ev_iload_n (pc := 43) (i := 2) rfl rfl dX9_takeProtocol_43 ?_
  refine ev_iconst (pc := 44) (v := -1) (by decide) dX9_takeProtocol_44 ?_
  refine ev_ic_ne (pc := 45) (tgt := 50) (by decide) dX9_takeProtocol_45 (fun c25 => ?_) (fun c25 => ?_)
  · replace h0 := qi_f h0 c25
    refine ev_aload_n (pc := 50) (i := 1) rfl rfl rfl dX9_takeProtocol_50 ?_
    refine ev_iconst (pc := 51) (v := 1) (by decide) dX9_takeProtocol_51 ?_
    refine ev_iload_n (pc := 52) (i := 2) rfl rfl dX9_takeProtocol_52 ?_
    refine ev_i2l (pc := 53)  dX9_takeProtocol_53 ?_
    refine ev_iload_n (pc := 54) (i := 2) rfl rfl dX9_takeProtocol_54 ?_
    refine ev_i2l (pc := 55)  dX9_takeProtocol_55 ?_
    obtain ⟨g27, h28⟩ := qk_el h0; clear h0
    obtain ⟨x29, S30, e31, h32⟩ := qc_el h28; clear h28
    refine xv_callV (pc := 56) (st := []) (as := [.int 1, .long ((s0 : Int32).toInt64), .long ((s0 : Int32).toInt64)]) (v := none) (S' := S30) ok_X5_setRange (e_X5_setRange e31) (isb_el g27) (by decide) rfl (Nat.le_of_ble_eq_true rfl) rfl gw_598 dX9_takeProtocol_56 ?_
    refine ev_aload_n (pc := 59) (i := 0) rfl rfl rfl dX9_takeProtocol_59 ?_
    refine ev_iconst (pc := 60) (v := 5) (by decide) dX9_takeProtocol_60 ?_
    obtain ⟨g33, h34⟩ := qk_el h32; clear h32
    obtain ⟨x35, S36, e37, h38⟩ := qc_el h34; clear h34
    refine xv_callV (pc := 61) (st := []) (as := [.int 5]) (v := (some (.int x35))) (S' := S36) ok_X9_go (e_X9_go e37) (isb_el g33) (by decide) rfl (Nat.le_of_ble_eq_true rfl) rfl gw_555 dX9_takeProtocol_61 ?_
    exact ev_ireturn (pc := 64) rfl rfl (by cases h38; rfl) dX9_takeProtocol_64
  · replace h0 := qi_t h0 c25
    refine ev_iconst (pc := 48) (v := 2) (by decide) dX9_takeProtocol_48 ?_
    exact ev_ireturn (pc := 49) rfl rfl (by cases h0; rfl) dX9_takeProtocol_49
def f_X9_takeProtocol (F : Nat) (S : gk_S) (a : Nat) (p0 : Nat) : Option (Int32 × gk_S) := qk (isb S a 7) <| qc (f_X9_isWord F S a 5) fun x3 S4 => if x3 = (0 : Int32) then (qk (isb S4 a 7) <| qc (f_X9_isWord F S4 a 6) fun x11 S12 => if x11 = (0 : Int32) then (qk (isb S12 a 7) <| qc (f_X9_isWord F S12 a 7) fun x19 S20 => if x19 = (0 : Int32) then (f_X9_takeProtocol_42 F a p0 (-1) S20) else f_X9_takeProtocol_42 F a p0 1 S20) else f_X9_takeProtocol_42 F a p0 17 S12) else f_X9_takeProtocol_42 F a p0 6 S4
theorem e_X9_takeProtocol {X : gk_X} {F : Nat} {S : gk_S} {a : Nat} {p0 : Nat} {r : (Int32 × gk_S)} (h0 : f_X9_takeProtocol F S a p0 = some r) : EvM X m_X9_takeProtocol 6 0 0 [.ref a, .ref p0] S (qRI r) := by
  unfold f_X9_takeProtocol at h0
  refine ev_method (by decide +kernel) rfl rfl (Nat.le_of_ble_eq_true rfl) ?_
  show EvW X m_X9_takeProtocol 6 0 0 0 [some (.ref a), some (.ref p0), none] [] S _
  refine ev_aload_n (pc := 0) (i := 0) rfl rfl rfl dX9_takeProtocol_0 ?_
  refine ev_ldcS (pc := 1) (i := 5) (by decide) rfl rfl dX9_takeProtocol_1 ?_
  obtain ⟨g1, h2⟩ := qk_el h0; clear h0
  obtain ⟨x3, S4, e5, h6⟩ := qc_el h2; clear h2
  refine xv_callV (pc := 3) (st := []) (as := [.retAddr (10 + 5)]) (v := (some (.int x3))) (S' := S4) ok_X9_isWord (e_X9_isWord e5) (isb_el g1) (by decide) rfl (Nat.le_of_ble_eq_true rfl) rfl gw_503 dX9_takeProtocol_3 ?_
  refine ev_if_eq (pc := 6) (tgt := 14) (by decide) dX9_takeProtocol_6 (fun c7 => ?_) (fun c7 => ?_)
  · replace h6 := qi_t h6 c7
    refine ev_aload_n (pc := 14) (i := 0) rfl rfl rfl dX9_takeProtocol_14 ?_
    refine ev_ldcS (pc := 15) (i := 6) (by decide) rfl rfl dX9_takeProtocol_15 ?_
    obtain ⟨g9, h10⟩ := qk_el h6; clear h6
    obtain ⟨x11, S12, e13, h14⟩ := qc_el h10; clear h10
    refine xv_callV (pc := 17) (st := []) (as := [.retAddr (10 + 6)]) (v := (some (.int x11))) (S' := S12) ok_X9_isWord (e_X9_isWord e13) (isb_el g9) (by decide) rfl (Nat.le_of_ble_eq_true rfl) rfl gw_503 dX9_takeProtocol_17 ?_
    refine ev_if_eq (pc := 20) (tgt := 28) (by decide) dX9_takeProtocol_20 (fun c15 => ?_) (fun c15 => ?_)
    · replace h14 := qi_t h14 c15
      refine ev_aload_n (pc := 28) (i := 0) rfl rfl rfl dX9_takeProtocol_28 ?_
      refine ev_ldcS (pc := 29) (i := 7) (by decide) rfl rfl dX9_takeProtocol_29 ?_
      obtain ⟨g17, h18⟩ := qk_el h14; clear h14
      obtain ⟨x19, S20, e21, h22⟩ := qc_el h18; clear h18
      refine xv_callV (pc := 31) (st := []) (as := [.retAddr (10 + 7)]) (v := (some (.int x19))) (S' := S20) ok_X9_isWord (e_X9_isWord e21) (isb_el g17) (by decide) rfl (Nat.le_of_ble_eq_true rfl) rfl gw_503 dX9_takeProtocol_31 ?_
      refine ev_if_eq (pc := 34) (tgt := 41) (by decide) dX9_takeProtocol_34 (fun c23 => ?_) (fun c23 => ?_)
      · replace h22 := qi_t h22 c23
        refine ev_iconst (pc := 41) (v := -1) (by decide) dX9_takeProtocol_41 ?_
        exact ev_weak (qL_s (qL_s (qL_n qL_nil))) (e_X9_takeProtocol_42 h22)
      · replace h22 := qi_f h22 c23
        refine ev_iconst (pc := 37) (v := 1) (by decide) dX9_takeProtocol_37 ?_
        refine ev_goto (pc := 38) (tgt := 42) (by decide) dX9_takeProtocol_38 ?_
        exact ev_weak (qL_s (qL_s (qL_n qL_nil))) (e_X9_takeProtocol_42 h22)
    · replace h14 := qi_f h14 c15
      refine ev_bipush (pc := 23) (v := 17) (by decide) dX9_takeProtocol_23 ?_
      refine ev_goto (pc := 25) (tgt := 42) (by decide) dX9_takeProtocol_25 ?_
      exact ev_weak (qL_s (qL_s (qL_n qL_nil))) (e_X9_takeProtocol_42 h14)
  · replace h6 := qi_f h6 c7
    refine ev_bipush (pc := 9) (v := 6) (by decide) dX9_takeProtocol_9 ?_
    refine ev_goto (pc := 11) (tgt := 42) (by decide) dX9_takeProtocol_11 ?_
    exact ev_weak (qL_s (qL_s (qL_n qL_nil))) (e_X9_takeProtocol_42 h6)
theorem dX9_isAddressPart_0 : decode cX9_isAddressPart 0 = .ok (.aload_n 0, 1) := by decide +kernel
theorem dX9_isAddressPart_1 : decode cX9_isAddressPart 1 = .ok (.getfield 41, 3) := by decide +kernel
theorem dX9_isAddressPart_4 : decode cX9_isAddressPart 4 = .ok (.iconst 2, 1) := by decide +kernel
theorem dX9_isAddressPart_5 : decode cX9_isAddressPart 5 = .ok (.if_icmp .eq 11, 3) := by decide +kernel
theorem dX9_isAddressPart_8 : decode cX9_isAddressPart 8 = .ok (.aload_n 0, 1) := by decide +kernel
theorem dX9_isAddressPart_9 : decode cX9_isAddressPart 9 = .ok (.getfield 41, 3) := by decide +kernel
theorem dX9_isAddressPart_12 : decode cX9_isAddressPart 12 = .ok (.iconst 3, 1) := by decide +kernel
theorem dX9_isAddressPart_13 : decode cX9_isAddressPart 13 = .ok (.if_icmp .ne 7, 3) := by decide +kernel
theorem dX9_isAddressPart_16 : decode cX9_isAddressPart 16 = .ok (.iconst 1, 1) := by decide +kernel
theorem dX9_isAddressPart_17 : decode cX9_isAddressPart 17 = .ok (.goto 4, 3) := by decide +kernel
theorem dX9_isAddressPart_20 : decode cX9_isAddressPart 20 = .ok (.iconst 0, 1) := by decide +kernel
theorem dX9_isAddressPart_21 : decode cX9_isAddressPart 21 = .ok (.ireturn, 1) := by decide +kernel
def f_X9_isAddressPart (F : Nat) (S : gk_S) (a : Nat) : Option (Int32 × gk_S) := qk (isb S a 7) <| qv (gI S 709 a) fun x3 => if x3 = (2 : Int32) then (some (1, S)) else qv (gI S 709 a) fun x8 => if x8 = (3 : Int32) then (some (1, S)) else some (0, S)
theorem e_X9_isAddressPart {X : gk_X} {F : Nat} {S : gk_S} {a : Nat} {r : (Int32 × gk_S)} (h0 : f_X9_isAddressPart F S a = some r) : EvM X m_X9_isAddressPart 1 0 0 [.ref a] S (qRI r) := by
  unfold f_X9_isAddressPart at h0
  refine ev_method (by decide +kernel) rfl rfl (Nat.le_of_ble_eq_true rfl) ?_
  show EvW X m_X9_isAddressPart 1 0 0 0 [some (.ref a)] [] S _
  refine ev_aload_n (pc := 0) (i := 0) rfl rfl rfl dX9_isAddressPart_0 ?_
  obtain ⟨g1, h2⟩ := qk_el h0; clear h0
  obtain ⟨x3, e4, h5⟩ := qv_el h2; clear h2
  refine xv_getIv (pc := 1) fn_709 (isb_el g1) e4 gw_129 dX9_isAddressPart_1 ?_
  refine ev_iconst (pc := 4) (v := 2) (by decide) dX9_isAddressPart_4 ?_
  refine ev_ic_eq (pc := 5) (tgt := 16) (by decide) dX9_isAddressPart_5 (fun c6 => ?_) (fun c6 => ?_)
  · replace h5 := qi_t h5 c6
    refine ev_iconst (pc := 16) (v := 1) (by decide) dX9_isAddressPart_16 ?_
    refine ev_goto (pc := 17) (tgt := 21) (by decide) dX9_isAddressPart_17 ?_
    exact ev_ireturn (pc := 21) rfl rfl (by cases h5; rfl) dX9_isAddressPart_21
  · replace h5 := qi_f h5 c6
    refine ev_aload_n (pc := 8) (i := 0) rfl rfl rfl dX9_isAddressPart_8 ?_
    obtain ⟨x8, e9, h10⟩ := qv_el h5; clear h5
    refine xv_getIv (pc := 9) fn_709 (isb_el g1) e9 gw_129 dX9_isAddressPart_9 ?_
    refine ev_iconst (pc := 12) (v := 3) (by decide) dX9_isAddressPart_12 ?_
    refine ev_ic_ne (pc := 13) (tgt := 20) (by decide) dX9_isAddressPart_13 (fun c11 => ?_) (fun c11 => ?_)
    · replace h10 := qi_f h10 c11
      refine ev_iconst (pc := 20) (v := 0) (by decide) dX9_isAddressPart_20 ?_
      exact ev_ireturn (pc := 21) rfl rfl (by cases h10; rfl) dX9_isAddressPart_21
    · replace h10 := qi_t h10 c11
      refine ev_iconst (pc := 16) (v := 1) (by decide) dX9_isAddressPart_16 ?_
      refine ev_goto (pc := 17) (tgt := 21) (by decide) dX9_isAddressPart_17 ?_
      exact ev_ireturn (pc := 21) rfl rfl (by cases h10; rfl) dX9_isAddressPart_21
theorem dX9_isValue_0 : decode cX9_isValue 0 = .ok (.aload_n 0, 1) := by decide +kernel
theorem dX9_isValue_1 : decode cX9_isValue 1 = .ok (.getfield 22, 3) := by decide +kernel
theorem dX9_isValue_4 : decode cX9_isValue 4 = .ok (.aload_n 0, 1) := by decide +kernel
theorem dX9_isValue_5 : decode cX9_isValue 5 = .ok (.invokevirtual 86, 3) := by decide +kernel
theorem dX9_isValue_8 : decode cX9_isValue 8 = .ok (.ifCond .eq 9, 3) := by decide +kernel
theorem dX9_isValue_11 : decode cX9_isValue 11 = .ok (.sipush 259, 3) := by decide +kernel
theorem dX9_isValue_14 : decode cX9_isValue 14 = .ok (.goto 6, 3) := by decide +kernel
theorem dX9_isValue_17 : decode cX9_isValue 17 = .ok (.sipush 258, 3) := by decide +kernel
theorem dX9_isValue_20 : decode cX9_isValue 20 = .ok (.if_icmp .ne 7, 3) := by decide +kernel
theorem dX9_isValue_23 : decode cX9_isValue 23 = .ok (.iconst 1, 1) := by decide +kernel
theorem dX9_isValue_24 : decode cX9_isValue 24 = .ok (.goto 4, 3) := by decide +kernel
theorem dX9_isValue_27 : decode cX9_isValue 27 = .ok (.iconst 0, 1) := by decide +kernel
theorem dX9_isValue_28 : decode cX9_isValue 28 = .ok (.ireturn, 1) := by decide +kernel
def f_X9_isValue (F : Nat) (S : gk_S) (a : Nat) : Option (Int32 × gk_S) := qk (isb S a 7) <| qv (gI S 703 a) fun x3 => qc (f_X9_isAddressPart F S a) fun x6 S7 => if x6 = (0 : Int32) then (if x3 = (258 : Int32) then (some (1, S7)) else some (0, S7)) else if x3 = (259 : Int32) then (some (1, S7)) else some (0, S7)
theorem e_X9_isValue {X : gk_X} {F : Nat} {S : gk_S} {a : Nat} {r : (Int32 × gk_S)} (h0 : f_X9_isValue F S a = some r) : EvM X m_X9_isValue 2 0 0 [.ref a] S (qRI r) := by
  unfold f_X9_isValue at h0
  refine ev_method (by decide +kernel) rfl rfl (Nat.le_of_ble_eq_true rfl) ?_
  show EvW X m_X9_isValue 2 0 0 0 [some (.ref a)] [] S _
  refine ev_aload_n (pc := 0) (i := 0) rfl rfl rfl dX9_isValue_0 ?_
  obtain ⟨g1, h2⟩ := qk_el h0; clear h0
  obtain ⟨x3, e4, h5⟩ := qv_el h2; clear h2
  refine xv_getIv (pc := 1) fn_703 (isb_el g1) e4 gw_123 dX9_isValue_1 ?_
  refine ev_aload_n (pc := 4) (i := 0) rfl rfl rfl dX9_isValue_4 ?_
  obtain ⟨x6, S7, e8, h9⟩ := qc_el h5; clear h5
  refine xv_callV (pc := 5) (st := [.int x3]) (as := []) (v := (some (.int x6))) (S' := S7) ok_X9_isAddressPart (e_X9_isAddressPart e8) (isb_el g1) (by decide) rfl (Nat.le_of_ble_eq_true rfl) rfl gw_606 dX9_isValue_5 ?_
  refine ev_if_eq (pc := 8) (tgt := 17) (by decide) dX9_isValue_8 (fun c10 => ?_) (fun c10 => ?_)
  · replace h9 := qi_t h9 c10
    refine ev_sipush (pc := 17) (v := 258) (by decide) dX9_isValue_17 ?_
    refine ev_ic_ne (pc := 20) (tgt := 27) (by decide) dX9_isValue_20 (fun c12 => ?_) (fun c12 => ?_)
    · replace h9 := qi_f h9 c12
      refine ev_iconst (pc := 27) (v := 0) (by decide) dX9_isValue_27 ?_
      exact ev_ireturn (pc := 28) rfl rfl (by cases h9; rfl) dX9_isValue_28
    · replace h9 := qi_t h9 c12
      refine ev_iconst (pc := 23) (v := 1) (by decide) dX9_isValue_23 ?_
      refine ev_goto (pc := 24) (tgt := 28) (by decide) dX9_isValue_24 ?_
      exact ev_ireturn (pc := 28) rfl rfl (by cases h9; rfl) dX9_isValue_28
  · replace h9 := qi_f h9 c10
    refine ev_sipush (pc := 11) (v := 259) (by decide) dX9_isValue_11 ?_
    refine ev_goto (pc := 14) (tgt := 20) (by decide) dX9_isValue_14 ?_
    refine ev_ic_ne (pc := 20) (tgt := 27) (by decide) dX9_isValue_20 (fun c14 => ?_) (fun c14 => ?_)
    · replace h9 := qi_f h9 c14
      refine ev_iconst (pc := 27) (v := 0) (by decide) dX9_isValue_27 ?_
      exact ev_ireturn (pc := 28) rfl rfl (by cases h9; rfl) dX9_isValue_28
    · replace h9 := qi_t h9 c14
      refine ev_iconst (pc := 23) (v := 1) (by decide) dX9_isValue_23 ?_
      refine ev_goto (pc := 24) (tgt := 28) (by decide) dX9_isValue_24 ?_
      exact ev_ireturn (pc := 28) rfl rfl (by cases h9; rfl) dX9_isValue_28
theorem dX9_top_0 : decode cX9_top 0 = .ok (.aload_n 0, 1) := by decide +kernel
theorem dX9_top_1 : decode cX9_top 1 = .ok (.getfield 41, 3) := by decide +kernel
theorem dX9_top_4 : decode cX9_top 4 = .ok (.ifCond .lt 23, 3) := by decide +kernel
theorem dX9_top_7 : decode cX9_top 7 = .ok (.aload_n 0, 1) := by decide +kernel
theorem dX9_top_8 : decode cX9_top 8 = .ok (.getfield 41, 3) := by decide +kernel
theorem dX9_top_11 : decode cX9_top 11 = .ok (.bipush 6, 2) := by decide +kernel
theorem dX9_top_13 : decode cX9_top 13 = .ok (.if_icmp .ge 14, 3) := by decide +kernel
theorem dX9_top_16 : decode cX9_top 16 = .ok (.getstatic 147, 3) := by decide +kernel
theorem dX9_top_19 : decode cX9_top 19 = .ok (.aload_n 0, 1) := by decide +kernel
theorem dX9_top_20 : decode cX9_top 20 = .ok (.getfield 41, 3) := by decide +kernel
theorem dX9_top_23 : decode cX9_top 23 = .ok (.laload, 1) := by decide +kernel
theorem dX9_top_24 : decode cX9_top 24 = .ok (.goto 4, 3) := by decide +kernel
theorem dX9_top_27 : decode cX9_top 27 = .ok (.lconst 0, 1) := by decide +kernel
theorem dX9_top_28 : decode cX9_top 28 = .ok (.lreturn, 1) := by decide +kernel
def f_X9_top (F : Nat) (S : gk_S) (a : Nat) : Option (Int64 × gk_S) := qk (isb S a 7) <| qv (gI S 709 a) fun x3 => if x3 < (0 : Int32) then (some (0, S)) else qv (gI S 709 a) fun x8 => if (6 : Int32) ≤ x8 then (some (0, S)) else qv (gI S 709 a) fun x13 => qk (inb x13 7) <| some ((gk_tops (x13 : Int32).toNatClampNeg), S)
theorem e_X9_top {X : gk_X} {F : Nat} {S : gk_S} {a : Nat} {r : (Int64 × gk_S)} (h0 : f_X9_top F S a = some r) : EvM X m_X9_top 1 0 0 [.ref a] S (qRJ r) := by
  unfold f_X9_top at h0
  refine ev_method (by decide +kernel) rfl rfl (Nat.le_of_ble_eq_true rfl) ?_
  show EvW X m_X9_top 1 0 0 0 [some (.ref a)] [] S _
  refine ev_aload_n (pc := 0) (i := 0) rfl rfl rfl dX9_top_0 ?_
  obtain ⟨g1, h2⟩ := qk_el h0; clear h0
  obtain ⟨x3, e4, h5⟩ := qv_el h2; clear h2
  refine xv_getIv (pc := 1) fn_709 (isb_el g1) e4 gw_129 dX9_top_1 ?_
  refine ev_if_lt (pc := 4) (tgt := 27) (by decide) dX9_top_4 (fun c6 => ?_) (fun c6 => ?_)
  · replace h5 := qi_t h5 c6
    refine ev_lconst (pc := 27) (v := 0) (by decide) dX9_top_27 ?_
    exact ev_lreturn (pc := 28) rfl (by cases h5; rfl) dX9_top_28
  · replace h5 := qi_f h5 c6
    refine ev_aload_n (pc := 7) (i := 0) rfl rfl rfl dX9_top_7 ?_
    obtain ⟨x8, e9, h10⟩ := qv_el h5; clear h5
    refine xv_getIv (pc := 8) fn_709 (isb_el g1) e9 gw_129 dX9_top_8 ?_
    refine ev_bipush (pc := 11) (v := 6) (by decide) dX9_top_11 ?_
    refine ev_ic_ge (pc := 13) (tgt := 27) (by decide) dX9_top_13 (fun c11 => ?_) (fun c11 => ?_)
    · replace h10 := qi_t h10 c11
      refine ev_lconst (pc := 27) (v := 0) (by decide) dX9_top_27 ?_
      exact ev_lreturn (pc := 28) rfl (by cases h10; rfl) dX9_top_28
    · replace h10 := qi_f h10 c11
      refine ev_getsTN (pc := 16) (by decide +kernel) dX9_top_16 ?_
      refine ev_aload_n (pc := 19) (i := 0) rfl rfl rfl dX9_top_19 ?_
      obtain ⟨x13, e14, h15⟩ := qv_el h10; clear h10
      refine xv_getIv (pc := 20) fn_709 (isb_el g1) e14 gw_129 dX9_top_20 ?_
      obtain ⟨g16, h17⟩ := qk_el h15; clear h15
      refine ev_caldT (pc := 23) (inb_el g16) dX9_top_23 ?_
      refine ev_goto (pc := 24) (tgt := 28) (by decide) dX9_top_24 ?_
      exact ev_lreturn (pc := 28) rfl (by cases h17; rfl) dX9_top_28
theorem dX9_takeValue_0 : decode cX9_takeValue 0 = .ok (.aload_n 0, 1) := by decide +kernel
theorem dX9_takeValue_1 : decode cX9_takeValue 1 = .ok (.getfield 41, 3) := by decide +kernel
theorem dX9_takeValue_4 : decode cX9_takeValue 4 = .ok (.iconst 1, 1) := by decide +kernel
theorem dX9_takeValue_5 : decode cX9_takeValue 5 = .ok (.if_icmp .ne 19, 3) := by decide +kernel
theorem dX9_takeValue_8 : decode cX9_takeValue 8 = .ok (.aload_n 0, 1) := by decide +kernel
theorem dX9_takeValue_9 : decode cX9_takeValue 9 = .ok (.getfield 22, 3) := by decide +kernel
theorem dX9_takeValue_12 : decode cX9_takeValue 12 = .ok (.sipush 257, 3) := by decide +kernel
theorem dX9_takeValue_15 : decode cX9_takeValue 15 = .ok (.if_icmp .ne 9, 3) := by decide +kernel
theorem dX9_takeValue_18 : decode cX9_takeValue 18 = .ok (.aload_n 0, 1) := by decide +kernel
theorem dX9_takeValue_19 : decode cX9_takeValue 19 = .ok (.aload_n 1, 1) := by decide +kernel
theorem dX9_takeValue_20 : decode cX9_takeValue 20 = .ok (.invokevirtual 120, 3) := by decide +kernel
theorem dX9_takeValue_23 : decode cX9_takeValue 23 = .ok (.ireturn, 1) := by decide +kernel
theorem dX9_takeValue_24 : decode cX9_takeValue 24 = .ok (.aload_n 0, 1) := by decide +kernel
theorem dX9_takeValue_25 : decode cX9_takeValue 25 = .ok (.invokevirtual 123, 3) := by decide +kernel
theorem dX9_takeValue_28 : decode cX9_takeValue 28 = .ok (.ifCond .ne 5, 3) := by decide +kernel
theorem dX9_takeValue_31 : decode cX9_takeValue 31 = .ok (.iconst 2, 1) := by decide +kernel
theorem dX9_takeValue_32 : decode cX9_takeValue 32 = .ok (.ireturn, 1) := by decide +kernel
theorem dX9_takeValue_33 : decode cX9_takeValue 33 = .ok (.aload_n 0, 1) := by decide +kernel
theorem dX9_takeValue_34 : decode cX9_takeValue 34 = .ok (.getfield 31, 3) := by decide +kernel
theorem dX9_takeValue_37 : decode cX9_takeValue 37 = .ok (.aload_n 0, 1) := by decide +kernel
theorem dX9_takeValue_38 : decode cX9_takeValue 38 = .ok (.invokevirtual 126, 3) := by decide +kernel
theorem dX9_takeValue_41 : decode cX9_takeValue 41 = .ok (.lcmp, 1) := by decide +kernel
theorem dX9_takeValue_42 : decode cX9_takeValue 42 = .ok (.ifCond .le 5, 3) := by decide +kernel
theorem dX9_takeValue_45 : decode cX9_takeValue 45 = .ok (.iconst 3, 1) := by decide +kernel
theorem dX9_takeValue_46 : decode cX9_takeValue 46 = .ok (.ireturn, 1) := by decide +kernel
theorem dX9_takeValue_47 : decode cX9_takeValue 47 = .ok (.aload_n 0, 1) := by decide +kernel
theorem dX9_takeValue_48 : decode cX9_takeValue 48 = .ok (.aload_n 0, 1) := by decide +kernel
theorem dX9_takeValue_49 : decode cX9_takeValue 49 = .ok (.getfield 31, 3) := by decide +kernel
theorem dX9_takeValue_52 : decode cX9_takeValue 52 = .ok (.putfield 44, 3) := by decide +kernel
theorem dX9_takeValue_55 : decode cX9_takeValue 55 = .ok (.aload_n 1, 1) := by decide +kernel
theorem dX9_takeValue_56 : decode cX9_takeValue 56 = .ok (.aload_n 0, 1) := by decide +kernel
theorem dX9_takeValue_57 : decode cX9_takeValue 57 = .ok (.getfield 41, 3) := by decide +kernel
theorem dX9_takeValue_60 : decode cX9_takeValue 60 = .ok (.aload_n 0, 1) := by decide +kernel
theorem dX9_takeValue_61 : decode cX9_takeValue 61 = .ok (.getfield 31, 3) := by decide +kernel
theorem dX9_takeValue_64 : decode cX9_takeValue 64 = .ok (.aload_n 0, 1) := by decide +kernel
theorem dX9_takeValue_65 : decode cX9_takeValue 65 = .ok (.getfield 31, 3) := by decide +kernel
theorem dX9_takeValue_68 : decode cX9_takeValue 68 = .ok (.invokevirtual 130, 3) := by decide +kernel
theorem dX9_takeValue_71 : decode cX9_takeValue 71 = .ok (.aload_n 0, 1) := by decide +kernel
theorem dX9_takeValue_72 : decode cX9_takeValue 72 = .ok (.bipush 7, 2) := by decide +kernel
theorem dX9_takeValue_74 : decode cX9_takeValue 74 = .ok (.invokevirtual 65, 3) := by decide +kernel
theorem dX9_takeValue_77 : decode cX9_takeValue 77 = .ok (.ireturn, 1) := by decide +kernel
def f_X9_takeValue_24 (F : Nat) (l0 : Nat) (l1 : Nat) (S : gk_S) : Option (Int32 × gk_S) := qk (isb S l0 7) <| qc (f_X9_isValue F S l0) fun x10 S11 => if x10 = (0 : Int32) then (some (2, S11)) else qk (isb S11 l0 7) <| qv (gJ S11 706 l0) fun x18 => qc (f_X9_top F S11 l0) fun x21 S22 => if x18 ≤ x21 then (qk (isb S22 l0 7) <| qv (gJ S22 706 l0) fun x29 => qv (sJ S22 710 l0 x29) fun S32 => qv (gI S32 709 l0) fun x35 => qv (gJ S32 706 l0) fun x38 => qv (gJ S32 706 l0) fun x41 => qk (isb S32 l1 3) <| qc (f_X5_setRange F S32 l1 x35 x38 x41) fun x46 S47 => qk (isb S47 l0 7) <| qc (f_X9_go F S47 l0 7) fun x52 S53 => some (x52, S53)) else some (3, S22)
theorem e_X9_takeValue_24 {X : gk_X} {F : Nat} {l0 : Nat} {l1 : Nat} {S : gk_S} {r : (Int32 × gk_S)} (h0 : f_X9_takeValue_24 F l0 l1 S = some r) : EvW X m_X9_takeValue 7 0 0 24 [some (.ref l0), some (.ref l1)] [] S (qRI r) := by
  unfold f_X9_takeValue_24 at h0
  refine ev_aload_n (pc := 24) (i := 0) rfl rfl rfl dX9_takeValue_24 ?_
  obtain ⟨g8, h9⟩ := qk_el h0; clear h0
  obtain ⟨x10, S11, e12, h13⟩ := qc_el h9; clear h9
  refine xv_callV (pc := 25) (st := []) (as := []) (v := (some (.int x10))) (S' := S11) ok_X9_isValue (e_X9_isValue e12) (isb_el g8) (by decide) rfl (Nat.le_of_ble_eq_true rfl) rfl gw_602 dX9_takeValue_25 ?_
  refine ev_if_ne (pc := 28) (tgt := 33) (by decide) dX9_takeValue_28 (fun c14 => ?_) (fun c14 => ?_)
  · replace h13 := qi_f h13 c14
    refine ev_aload_n (pc := 33) (i := 0) rfl rfl rfl dX9_takeValue_33 ?_
    obtain ⟨g16, h17⟩ := qk_el h13; clear h13
    obtain ⟨x18, e19, h20⟩ := qv_el h17; clear h17
    refine xv_getJv (pc := 34) fn_706 (isb_el g16) e19 gw_126 dX9_takeValue_34 ?_
    refine ev_aload_n (pc := 37) (i := 0) rfl rfl rfl dX9_takeValue_37 ?_
    obtain ⟨x21, S22, e23, h24⟩ := qc_el h20; clear h20
    refine xv_callV (pc := 38) (st := [.long x18]) (as := []) (v := (some (.long x21))) (S' := S22) ok_X9_top (e_X9_top e23) (isb_el g16) (by decide) rfl (Nat.le_of_ble_eq_true rfl) rfl gw_610 dX9_takeValue_38 ?_
    refine ev_lcmp (pc := 41)  dX9_takeValue_41 ?_
    refine ev_if_le (pc := 42) (tgt := 47) (by decide) dX9_takeValue_42 (fun c25 => ?_) (fun c25 => ?_)
    · replace h24 := qi_t h24 (lc_le c25)
      refine ev_aload_n (pc := 47) (i := 0) rfl rfl rfl dX9_takeValue_47 ?_
      refine ev_aload_n (pc := 48) (i := 0) rfl rfl rfl dX9_takeValue_48 ?_
      obtain ⟨g27, h28⟩ := qk_el h24; clear h24
      obtain ⟨x29, e30, h31⟩ := qv_el h28; clear h28
      refine xv_getJv (pc := 49) fn_706 (isb_el g27) e30 gw_126 dX9_takeValue_49 ?_
      obtain ⟨S32, e33, h34⟩ := qv_el h31; clear h31
      refine yv_putJ (pc := 52) fn_710 (isb_el g27) e33 gw_130 dX9_takeValue_52 ?_
      refine ev_aload_n (pc := 55) (i := 1) rfl rfl rfl dX9_takeValue_55 ?_
      refine ev_aload_n (pc := 56) (i := 0) rfl rfl rfl dX9_takeValue_56 ?_
      obtain ⟨x35, e36, h37⟩ := qv_el h34; clear h34
      refine xv_getIv (pc := 57) fn_709 (is_sJ (isb_el g27) e33) e36 gw_129 dX9_takeValue_57 ?_
      refine ev_aload_n (pc := 60) (i := 0) rfl rfl rfl dX9_takeValue_60 ?_
      obtain ⟨x38, e39, h40⟩ := qv_el h37; clear h37
      refine xv_getJv (pc := 61) fn_706 (is_sJ (isb_el g27) e33) e39 gw_126 dX9_takeValue_61 ?_
      refine ev_aload_n (pc := 64) (i := 0) rfl rfl rfl dX9_takeValue_64 ?_
      obtain ⟨x41, e42, h43⟩ := qv_el h40; clear h40
      refine xv_getJv (pc := 65) fn_706 (is_sJ (isb_el g27) e33) e42 gw_126 dX9_takeValue_65 ?_
      obtain ⟨g44, h45⟩ := qk_el h43; clear h43
      obtain ⟨x46, S47, e48, h49⟩ := qc_el h45; clear h45
      refine xv_callV (pc := 68) (st := []) (as := [.int x35, .long x38, .long x41]) (v := none) (S' := S47) ok_X5_setRange (e_X5_setRange e48) (isb_el g44) (by decide) rfl (Nat.le_of_ble_eq_true rfl) rfl gw_598 dX9_takeValue_68 ?_
      refine ev_aload_n (pc := 71) (i := 0) rfl rfl rfl dX9_takeValue_71 ?_
      refine ev_bipush (pc := 72) (v := 7) (by decide) dX9_takeValue_72 ?_
      obtain ⟨g50, h51⟩ := qk_el h49; clear h49
      obtain ⟨x52, S53, e54, h55⟩ := qc_el h51; clear h51
      refine xv_callV (pc := 74) (st := []) (as := [.int 7]) (v := (some (.int x52))) (S' := S53) ok_X9_go (e_X9_go e54) (isb_el g50) (by decide) rfl (Nat.le_of_ble_eq_true rfl) rfl gw_555 dX9_takeValue_74 ?_
      exact ev_ireturn (pc := 77) rfl rfl (by cases h55; rfl) dX9_takeValue_77
    · replace h24 := qi_f h24 (lc_leN c25)
      refine ev_iconst (pc := 45) (v := 3) (by decide) dX9_takeValue_45 ?_
      exact ev_ireturn (pc := 46) rfl rfl (by cases h24; rfl) dX9_takeValue_46
  · replace h13 := qi_t h13 c14
    refine ev_iconst (pc := 31) (v := 2) (by decide) dX9_takeValue_31 ?_
    exact ev_ireturn (pc := 32) rfl rfl (by cases h13; rfl) dX9_takeValue_32
def f_X9_takeValue (F : Nat) (S : gk_S) (a : Nat) (p0 : Nat) : Option (Int32 × gk_S) := qk (isb S a 7) <| qv (gI S 709 a) fun x3 => if x3 = (1 : Int32) then (qv (gI S 703 a) fun x56 => if x56 = (257 : Int32) then (qc (f_X9_takeProtocol F S a p0) fun x61 S62 => some (x61, S62)) else f_X9_takeValue_24 F a p0 S) else f_X9_takeValue_24 F a p0 S
theorem e_X9_takeValue {X : gk_X} {F : Nat} {S : gk_S} {a : Nat} {p0 : Nat} {r : (Int32 × gk_S)} (h0 : f_X9_takeValue F S a p0 = some r) : EvM X m_X9_takeValue 7 0 0 [.ref a, .ref p0] S (qRI r) := by
  unfold f_X9_takeValue at h0
  refine ev_method (by decide +kernel) rfl rfl (Nat.le_of_ble_eq_true rfl) ?_
  show EvW X m_X9_takeValue 7 0 0 0 [some (.ref a), some (.ref p0)] [] S _
  refine ev_aload_n (pc := 0) (i := 0) rfl rfl rfl dX9_takeValue_0 ?_
  obtain ⟨g1, h2⟩ := qk_el h0; clear h0
  obtain ⟨x3, e4, h5⟩ := qv_el h2; clear h2
  refine xv_getIv (pc := 1) fn_709 (isb_el g1) e4 gw_129 dX9_takeValue_1 ?_
  refine ev_iconst (pc := 4) (v := 1) (by decide) dX9_takeValue_4 ?_
  refine ev_ic_ne (pc := 5) (tgt := 24) (by decide) dX9_takeValue_5 (fun c6 => ?_) (fun c6 => ?_)
  · replace h5 := qi_f h5 c6
    exact ev_weak (qL_s (qL_s qL_nil)) (e_X9_takeValue_24 h5)
  · replace h5 := qi_t h5 c6
    refine ev_aload_n (pc := 8) (i := 0) rfl rfl rfl dX9_takeValue_8 ?_
    obtain ⟨x56, e57, h58⟩ := qv_el h5; clear h5
    refine xv_getIv (pc := 9) fn_703 (isb_el g1) e57 gw_123 dX9_takeValue_9 ?_
    refine ev_sipush (pc := 12) (v := 257) (by decide) dX9_takeValue_12 ?_
    refine ev_ic_ne (pc := 15) (tgt := 24) (by decide) dX9_takeValue_15 (fun c59 => ?_) (fun c59 => ?_)
    · replace h58 := qi_f h58 c59
      exact ev_weak (qL_s (qL_s qL_nil)) (e_X9_takeValue_24 h58)
    · replace h58 := qi_t h58 c59
      refine ev_aload_n (pc := 18) (i := 0) rfl rfl rfl dX9_takeValue_18 ?_
      refine ev_aload_n (pc := 19) (i := 1) rfl rfl rfl dX9_takeValue_19 ?_
      obtain ⟨x61, S62, e63, h64⟩ := qc_el h58; clear h58
      refine xv_callV (pc := 20) (st := []) (as := [.ref p0]) (v := (some (.int x61))) (S' := S62) ok_X9_takeProtocol (e_X9_takeProtocol e63) (isb_el g1) (by decide) rfl (Nat.le_of_ble_eq_true rfl) rfl gw_591 dX9_takeValue_20 ?_
      exact ev_ireturn (pc := 23) rfl rfl (by cases h64; rfl) dX9_takeValue_23
theorem dX11_partWord_0 : decode cX11_partWord 0 = .ok (.iload_n 0, 1) := by decide +kernel
theorem dX11_partWord_1 : decode cX11_partWord 1 = .ok (.tableswitch 63 0 5 #[39, 43, 47, 51, 55, 59], 39) := by decide +kernel
theorem dX11_partWord_40 : decode cX11_partWord 40 = .ok (.ldc_w 292, 3) := by decide +kernel
theorem dX11_partWord_43 : decode cX11_partWord 43 = .ok (.areturn, 1) := by decide +kernel
theorem dX11_partWord_44 : decode cX11_partWord 44 = .ok (.ldc_w 294, 3) := by decide +kernel
theorem dX11_partWord_47 : decode cX11_partWord 47 = .ok (.areturn, 1) := by decide +kernel
theorem dX11_partWord_48 : decode cX11_partWord 48 = .ok (.ldc_w 296, 3) := by decide +kernel
theorem dX11_partWord_51 : decode cX11_partWord 51 = .ok (.areturn, 1) := by decide +kernel
theorem dX11_partWord_52 : decode cX11_partWord 52 = .ok (.ldc_w 298, 3) := by decide +kernel
theorem dX11_partWord_55 : decode cX11_partWord 55 = .ok (.areturn, 1) := by decide +kernel
theorem dX11_partWord_56 : decode cX11_partWord 56 = .ok (.ldc_w 300, 3) := by decide +kernel
theorem dX11_partWord_59 : decode cX11_partWord 59 = .ok (.areturn, 1) := by decide +kernel
theorem dX11_partWord_60 : decode cX11_partWord 60 = .ok (.ldc_w 302, 3) := by decide +kernel
theorem dX11_partWord_63 : decode cX11_partWord 63 = .ok (.areturn, 1) := by decide +kernel
theorem dX11_partWord_64 : decode cX11_partWord 64 = .ok (.ldc_w 304, 3) := by decide +kernel
theorem dX11_partWord_67 : decode cX11_partWord 67 = .ok (.areturn, 1) := by decide +kernel
def f_X11_partWord (F : Nat) (S : gk_S) (p0 : Int32) : Option (Nat × gk_S) := if p0 = 0 then (some (8, S)) else if p0 = 1 then (some (9, S)) else if p0 = 2 then (some (10, S)) else if p0 = 3 then (some (11, S)) else if p0 = 4 then (some (12, S)) else if p0 = 5 then (some (13, S)) else some (14, S)
theorem e_X11_partWord {X : gk_X} {F : Nat} {S : gk_S} {p0 : Int32} {r : (Nat × gk_S)} (h0 : f_X11_partWord F S p0 = some r) : EvM X m_X11_partWord 1 0 0 [.int p0] S (qRT r) := by
  unfold f_X11_partWord at h0
  refine ev_method (by decide +kernel) rfl rfl (Nat.le_of_ble_eq_true rfl) ?_
  show EvW X m_X11_partWord 1 0 0 0 [some (.int p0)] [] S _
  refine ev_iload_n (pc := 0) (i := 0) rfl rfl dX11_partWord_0 ?_
  by_cases c1 : p0 = 0
  · refine ev_tableIn (pc := 1) (off := 39) (tgt := 40) (by rw [c1]; decide) (by rw [c1]; decide) (by rw [c1]; rfl) (by decide) dX11_partWord_1 ?_
    replace h0 := qi_t h0 c1
    refine ev_ldcSW (pc := 40) (i := 8) (by decide) rfl rfl dX11_partWord_40 ?_
    exact ev_areturn (pc := 43) rfl (by first | exact .inl ⟨_, rfl⟩ | exact .inr ⟨_, rfl⟩) rfl (by cases h0; rfl) dX11_partWord_43
  replace h0 := qi_f h0 c1
  by_cases c2 : p0 = 1
  · refine ev_tableIn (pc := 1) (off := 43) (tgt := 44) (by rw [c2]; decide) (by rw [c2]; decide) (by rw [c2]; rfl) (by decide) dX11_partWord_1 ?_
    replace h0 := qi_t h0 c2
    refine ev_ldcSW (pc := 44) (i := 9) (by decide) rfl rfl dX11_partWord_44 ?_
    exact ev_areturn (pc := 47) rfl (by first | exact .inl ⟨_, rfl⟩ | exact .inr ⟨_, rfl⟩) rfl (by cases h0; rfl) dX11_partWord_47
  replace h0 := qi_f h0 c2
  by_cases c3 : p0 = 2
  · refine ev_tableIn (pc := 1) (off := 47) (tgt := 48) (by rw [c3]; decide) (by rw [c3]; decide) (by rw [c3]; rfl) (by decide) dX11_partWord_1 ?_
    replace h0 := qi_t h0 c3
    refine ev_ldcSW (pc := 48) (i := 10) (by decide) rfl rfl dX11_partWord_48 ?_
    exact ev_areturn (pc := 51) rfl (by first | exact .inl ⟨_, rfl⟩ | exact .inr ⟨_, rfl⟩) rfl (by cases h0; rfl) dX11_partWord_51
  replace h0 := qi_f h0 c3
  by_cases c4 : p0 = 3
  · refine ev_tableIn (pc := 1) (off := 51) (tgt := 52) (by rw [c4]; decide) (by rw [c4]; decide) (by rw [c4]; rfl) (by decide) dX11_partWord_1 ?_
    replace h0 := qi_t h0 c4
    refine ev_ldcSW (pc := 52) (i := 11) (by decide) rfl rfl dX11_partWord_52 ?_
    exact ev_areturn (pc := 55) rfl (by first | exact .inl ⟨_, rfl⟩ | exact .inr ⟨_, rfl⟩) rfl (by cases h0; rfl) dX11_partWord_55
  replace h0 := qi_f h0 c4
  by_cases c5 : p0 = 4
  · refine ev_tableIn (pc := 1) (off := 55) (tgt := 56) (by rw [c5]; decide) (by rw [c5]; decide) (by rw [c5]; rfl) (by decide) dX11_partWord_1 ?_
    replace h0 := qi_t h0 c5
    refine ev_ldcSW (pc := 56) (i := 12) (by decide) rfl rfl dX11_partWord_56 ?_
    exact ev_areturn (pc := 59) rfl (by first | exact .inl ⟨_, rfl⟩ | exact .inr ⟨_, rfl⟩) rfl (by cases h0; rfl) dX11_partWord_59
  replace h0 := qi_f h0 c5
  by_cases c6 : p0 = 5
  · refine ev_tableIn (pc := 1) (off := 59) (tgt := 60) (by rw [c6]; decide) (by rw [c6]; decide) (by rw [c6]; rfl) (by decide) dX11_partWord_1 ?_
    replace h0 := qi_t h0 c6
    refine ev_ldcSW (pc := 60) (i := 13) (by decide) rfl rfl dX11_partWord_60 ?_
    exact ev_areturn (pc := 63) rfl (by first | exact .inl ⟨_, rfl⟩ | exact .inr ⟨_, rfl⟩) rfl (by cases h0; rfl) dX11_partWord_63
  replace h0 := qi_f h0 c6
  refine ev_tableOut (pc := 1) (tgt := 64) (by have z0 := ti_ne c1 (n := 0) rfl; have z1 := ti_ne c2 (n := 1) rfl; have z2 := ti_ne c3 (n := 2) rfl; have z3 := ti_ne c4 (n := 3) rfl; have z4 := ti_ne c5 (n := 4) rfl; have z5 := ti_ne c6 (n := 5) rfl; omega) (by decide) dX11_partWord_1 ?_
  refine ev_ldcSW (pc := 64) (i := 14) (by decide) rfl rfl dX11_partWord_64 ?_
  exact ev_areturn (pc := 67) rfl (by first | exact .inl ⟨_, rfl⟩ | exact .inr ⟨_, rfl⟩) rfl (by cases h0; rfl) dX11_partWord_67
theorem dX9_partHere_0 : decode cX9_partHere 0 = .ok (.iconst 0, 1) := by decide +kernel
theorem dX9_partHere_1 : decode cX9_partHere 1 = .ok (.istore_n 1, 1) := by decide +kernel
theorem dX9_partHere_2 : decode cX9_partHere 2 = .ok (.iload_n 1, 1) := by decide +kernel
theorem dX9_partHere_3 : decode cX9_partHere 3 = .ok (.bipush 7, 2) := by decide +kernel
theorem dX9_partHere_5 : decode cX9_partHere 5 = .ok (.if_icmp .ge 22, 3) := by decide +kernel
theorem dX9_partHere_8 : decode cX9_partHere 8 = .ok (.aload_n 0, 1) := by decide +kernel
theorem dX9_partHere_9 : decode cX9_partHere 9 = .ok (.iload_n 1, 1) := by decide +kernel
theorem dX9_partHere_10 : decode cX9_partHere 10 = .ok (.invokestatic 155, 3) := by decide +kernel
theorem dX9_partHere_13 : decode cX9_partHere 13 = .ok (.invokevirtual 61, 3) := by decide +kernel
theorem dX9_partHere_16 : decode cX9_partHere 16 = .ok (.ifCond .eq 5, 3) := by decide +kernel
theorem dX9_partHere_19 : decode cX9_partHere 19 = .ok (.iload_n 1, 1) := by decide +kernel
theorem dX9_partHere_20 : decode cX9_partHere 20 = .ok (.ireturn, 1) := by decide +kernel
theorem dX9_partHere_21 : decode cX9_partHere 21 = .ok (.iinc 1 1, 3) := by decide +kernel
theorem dX9_partHere_24 : decode cX9_partHere 24 = .ok (.goto (-22), 3) := by decide +kernel
theorem dX9_partHere_27 : decode cX9_partHere 27 = .ok (.iconst (-1), 1) := by decide +kernel
theorem dX9_partHere_28 : decode cX9_partHere 28 = .ok (.ireturn, 1) := by decide +kernel
def f_X9_partHere_2 (F : Nat) : Nat → Nat → Int32 → gk_S → Option (Int32 × gk_S)
  | 0, _, _, _ => none
  | n + 1, l0, l1, S => if (7 : Int32) ≤ l1 then (some ((-1), S)) else qc (f_X11_partWord F S l1) fun x3 S4 => qk (isb S4 l0 7) <| qc (f_X9_isWord F S4 l0 x3) fun x9 S10 => if x9 = (0 : Int32) then (f_X9_partHere_2 F n l0 (l1 + 1) S10) else some (l1, S10)
theorem e_X9_partHere_2 {X : gk_X} {F : Nat} : ∀ (n : Nat) (l0 : Nat) (l1 : Int32) (S : gk_S) (r : (Int32 × gk_S)), f_X9_partHere_2 F n l0 l1 S = some r → EvW X m_X9_partHere 6 0 0 2 [some (.ref l0), some (.int l1)] [] S (qRI r) := by
  intro n
  induction n with
  | zero => intro l0 l1 S r h0; rw [f_X9_partHere_2] at h0; cases h0
  | succ n ih =>
    intro l0 l1 S r h0; rw [f_X9_partHere_2] at h0
    refine ev_iload_n (pc := 2) (i := 1) rfl rfl dX9_partHere_2 ?_
    refine ev_bipush (pc := 3) (v := 7) (by decide) dX9_partHere_3 ?_
    refine ev_ic_ge (pc := 5) (tgt := 27) (by decide) dX9_partHere_5 (fun c1 => ?_) (fun c1 => ?_)
    · replace h0 := qi_t h0 c1
      refine ev_iconst (pc := 27) (v := -1) (by decide) dX9_partHere_27 ?_
      exact ev_ireturn (pc := 28) rfl rfl (by cases h0; rfl) dX9_partHere_28
    · replace h0 := qi_f h0 c1
      refine ev_aload_n (pc := 8) (i := 0) rfl rfl rfl dX9_partHere_8 ?_
      refine ev_iload_n (pc := 9) (i := 1) rfl rfl dX9_partHere_9 ?_
      obtain ⟨x3, S4, e5, h6⟩ := qc_el h0; clear h0
      refine xv_callSN (pc := 10) (st := [.ref l0]) (as := [.int l1]) (v := (some (.retAddr (10 + x3)))) (S' := S4) (host := "GateHouse") ok_X11_partWord (e_X11_partWord e5) (by decide) rfl (Nat.le_of_ble_eq_true rfl) rfl (by decide +kernel) dX9_partHere_10 ?_
      obtain ⟨g7, h8⟩ := qk_el h6; clear h6
      obtain ⟨x9, S10, e11, h12⟩ := qc_el h8; clear h8
      refine xv_callV (pc := 13) (st := []) (as := [.retAddr (10 + x3)]) (v := (some (.int x9))) (S' := S10) ok_X9_isWord (e_X9_isWord e11) (isb_el g7) (by decide) rfl (Nat.le_of_ble_eq_true rfl) rfl gw_503 dX9_partHere_13 ?_
      refine ev_if_eq (pc := 16) (tgt := 21) (by decide) dX9_partHere_16 (fun c13 => ?_) (fun c13 => ?_)
      · replace h12 := qi_t h12 c13
        refine ev_iinc (pc := 21) (L' := [some (.ref l0), some (.int (l1 + 1))]) (i := 1) (v := (l1 + 1)) rfl rfl (by decide) rfl rfl dX9_partHere_21 ?_
        refine ev_goto (pc := 24) (tgt := 2) (by decide) dX9_partHere_24 ?_
        exact (ev_weak (qL_s (qL_s qL_nil)) (ih _ _ _ _ h12))
      · replace h12 := qi_f h12 c13
        refine ev_iload_n (pc := 19) (i := 1) rfl rfl dX9_partHere_19 ?_
        exact ev_ireturn (pc := 20) rfl rfl (by cases h12; rfl) dX9_partHere_20
def f_X9_partHere (F : Nat) (S : gk_S) (a : Nat) : Option (Int32 × gk_S) := f_X9_partHere_2 F F a 0 S
theorem e_X9_partHere {X : gk_X} {F : Nat} {S : gk_S} {a : Nat} {r : (Int32 × gk_S)} (h0 : f_X9_partHere F S a = some r) : EvM X m_X9_partHere 6 0 0 [.ref a] S (qRI r) := by
  unfold f_X9_partHere at h0
  refine ev_method (by decide +kernel) rfl rfl (Nat.le_of_ble_eq_true rfl) ?_
  show EvW X m_X9_partHere 6 0 0 0 [some (.ref a), none] [] S _
  refine ev_iconst (pc := 0) (v := 0) (by decide) dX9_partHere_0 ?_
  refine ev_istore_n (pc := 1) (L' := [some (.ref a), some (.int 0)]) (i := 1) rfl (by decide) rfl rfl dX9_partHere_1 ?_
  exact ev_weak (qL_s (qL_s qL_nil)) (e_X9_partHere_2 F _ _ _ _ h0)
theorem dX9_takePart_0 : decode cX9_takePart 0 = .ok (.aload_n 0, 1) := by decide +kernel
theorem dX9_takePart_1 : decode cX9_takePart 1 = .ok (.getfield 22, 3) := by decide +kernel
theorem dX9_takePart_4 : decode cX9_takePart 4 = .ok (.bipush 59, 2) := by decide +kernel
theorem dX9_takePart_6 : decode cX9_takePart 6 = .ok (.if_icmp .ne 19, 3) := by decide +kernel
theorem dX9_takePart_9 : decode cX9_takePart 9 = .ok (.aload_n 1, 1) := by decide +kernel
theorem dX9_takePart_10 : decode cX9_takePart 10 = .ok (.dup, 1) := by decide +kernel
theorem dX9_takePart_11 : decode cX9_takePart 11 = .ok (.getfield 75, 3) := by decide +kernel
theorem dX9_takePart_14 : decode cX9_takePart 14 = .ok (.iconst 1, 1) := by decide +kernel
theorem dX9_takePart_15 : decode cX9_takePart 15 = .ok (.iadd, 1) := by decide +kernel
theorem dX9_takePart_16 : decode cX9_takePart 16 = .ok (.putfield 75, 3) := by decide +kernel
theorem dX9_takePart_19 : decode cX9_takePart 19 = .ok (.aload_n 0, 1) := by decide +kernel
theorem dX9_takePart_20 : decode cX9_takePart 20 = .ok (.iconst 4, 1) := by decide +kernel
theorem dX9_takePart_21 : decode cX9_takePart 21 = .ok (.invokevirtual 65, 3) := by decide +kernel
theorem dX9_takePart_24 : decode cX9_takePart 24 = .ok (.ireturn, 1) := by decide +kernel
theorem dX9_takePart_25 : decode cX9_takePart 25 = .ok (.aload_n 0, 1) := by decide +kernel
theorem dX9_takePart_26 : decode cX9_takePart 26 = .ok (.aload_n 0, 1) := by decide +kernel
theorem dX9_takePart_27 : decode cX9_takePart 27 = .ok (.invokevirtual 114, 3) := by decide +kernel
theorem dX9_takePart_30 : decode cX9_takePart 30 = .ok (.putfield 41, 3) := by decide +kernel
theorem dX9_takePart_33 : decode cX9_takePart 33 = .ok (.aload_n 0, 1) := by decide +kernel
theorem dX9_takePart_34 : decode cX9_takePart 34 = .ok (.getfield 41, 3) := by decide +kernel
theorem dX9_takePart_37 : decode cX9_takePart 37 = .ok (.iconst (-1), 1) := by decide +kernel
theorem dX9_takePart_38 : decode cX9_takePart 38 = .ok (.if_icmp .ne 5, 3) := by decide +kernel
theorem dX9_takePart_41 : decode cX9_takePart 41 = .ok (.iconst 2, 1) := by decide +kernel
theorem dX9_takePart_42 : decode cX9_takePart 42 = .ok (.ireturn, 1) := by decide +kernel
theorem dX9_takePart_43 : decode cX9_takePart 43 = .ok (.aload_n 0, 1) := by decide +kernel
theorem dX9_takePart_44 : decode cX9_takePart 44 = .ok (.getfield 38, 3) := by decide +kernel
theorem dX9_takePart_47 : decode cX9_takePart 47 = .ok (.aload_n 0, 1) := by decide +kernel
theorem dX9_takePart_48 : decode cX9_takePart 48 = .ok (.getfield 41, 3) := by decide +kernel
theorem dX9_takePart_51 : decode cX9_takePart 51 = .ok (.ishr, 1) := by decide +kernel
theorem dX9_takePart_52 : decode cX9_takePart 52 = .ok (.iconst 1, 1) := by decide +kernel
theorem dX9_takePart_53 : decode cX9_takePart 53 = .ok (.iand, 1) := by decide +kernel
theorem dX9_takePart_54 : decode cX9_takePart 54 = .ok (.ifCond .eq 5, 3) := by decide +kernel
theorem dX9_takePart_57 : decode cX9_takePart 57 = .ok (.iconst 4, 1) := by decide +kernel
theorem dX9_takePart_58 : decode cX9_takePart 58 = .ok (.ireturn, 1) := by decide +kernel
theorem dX9_takePart_59 : decode cX9_takePart 59 = .ok (.aload_n 0, 1) := by decide +kernel
theorem dX9_takePart_60 : decode cX9_takePart 60 = .ok (.dup, 1) := by decide +kernel
theorem dX9_takePart_61 : decode cX9_takePart 61 = .ok (.getfield 38, 3) := by decide +kernel
theorem dX9_takePart_64 : decode cX9_takePart 64 = .ok (.iconst 1, 1) := by decide +kernel
theorem dX9_takePart_65 : decode cX9_takePart 65 = .ok (.aload_n 0, 1) := by decide +kernel
theorem dX9_takePart_66 : decode cX9_takePart 66 = .ok (.getfield 41, 3) := by decide +kernel
theorem dX9_takePart_69 : decode cX9_takePart 69 = .ok (.ishl, 1) := by decide +kernel
theorem dX9_takePart_70 : decode cX9_takePart 70 = .ok (.ior, 1) := by decide +kernel
theorem dX9_takePart_71 : decode cX9_takePart 71 = .ok (.putfield 38, 3) := by decide +kernel
theorem dX9_takePart_74 : decode cX9_takePart 74 = .ok (.aload_n 0, 1) := by decide +kernel
theorem dX9_takePart_75 : decode cX9_takePart 75 = .ok (.getfield 41, 3) := by decide +kernel
theorem dX9_takePart_78 : decode cX9_takePart 78 = .ok (.bipush 6, 2) := by decide +kernel
theorem dX9_takePart_80 : decode cX9_takePart 80 = .ok (.if_icmp .eq 10, 3) := by decide +kernel
theorem dX9_takePart_83 : decode cX9_takePart 83 = .ok (.aload_n 0, 1) := by decide +kernel
theorem dX9_takePart_84 : decode cX9_takePart 84 = .ok (.bipush 6, 2) := by decide +kernel
theorem dX9_takePart_86 : decode cX9_takePart 86 = .ok (.invokevirtual 65, 3) := by decide +kernel
theorem dX9_takePart_89 : decode cX9_takePart 89 = .ok (.ireturn, 1) := by decide +kernel
theorem dX9_takePart_90 : decode cX9_takePart 90 = .ok (.aload_n 1, 1) := by decide +kernel
theorem dX9_takePart_91 : decode cX9_takePart 91 = .ok (.aload_n 1, 1) := by decide +kernel
theorem dX9_takePart_92 : decode cX9_takePart 92 = .ok (.getfield 75, 3) := by decide +kernel
theorem dX9_takePart_95 : decode cX9_takePart 95 = .ok (.invokevirtual 78, 3) := by decide +kernel
theorem dX9_takePart_98 : decode cX9_takePart 98 = .ok (.iconst 0, 1) := by decide +kernel
theorem dX9_takePart_99 : decode cX9_takePart 99 = .ok (.putfield 117, 3) := by decide +kernel
theorem dX9_takePart_102 : decode cX9_takePart 102 = .ok (.aload_n 0, 1) := by decide +kernel
theorem dX9_takePart_103 : decode cX9_takePart 103 = .ok (.bipush 10, 2) := by decide +kernel
theorem dX9_takePart_105 : decode cX9_takePart 105 = .ok (.invokevirtual 65, 3) := by decide +kernel
theorem dX9_takePart_108 : decode cX9_takePart 108 = .ok (.ireturn, 1) := by decide +kernel
def f_X9_takePart (F : Nat) (S : gk_S) (a : Nat) (p0 : Nat) : Option (Int32 × gk_S) := qk (isb S a 7) <| qv (gI S 703 a) fun x3 => if x3 = (59 : Int32) then (qk (isb S p0 4) <| qv (gI S 401 p0) fun x70 => qv (sI S 401 p0 (x70 + 1)) fun S73 => qc (f_X9_go F S73 a 4) fun x76 S77 => some (x76, S77)) else qc (f_X9_partHere F S a) fun x8 S9 => qk (isb S9 a 7) <| qv (sI S9 709 a x8) fun S14 => qv (gI S14 709 a) fun x17 => if x17 = ((-1) : Int32) then (some (2, S14)) else qv (gI S14 708 a) fun x22 => qv (gI S14 709 a) fun x25 => if (((x22 : Int32) >>> ((x25 : Int32) &&& 31)) &&& 1) = (0 : Int32) then (qv (gI S14 708 a) fun x30 => qv (gI S14 709 a) fun x33 => qv (sI S14 708 a (x30 ||| ((1 : Int32) <<< ((x33 : Int32) &&& 31)))) fun S36 => qv (gI S36 709 a) fun x39 => if x39 = (6 : Int32) then (qk (isb S36 p0 4) <| qv (gI S36 401 p0) fun x46 => qc (f_X6_at F S36 p0 x46) fun x49 S50 => qk (isb S50 x49 3) <| qv (sI S50 302 x49 0) fun S55 => qk (isb S55 a 7) <| qc (f_X9_go F S55 a 10) fun x60 S61 => some (x60, S61)) else qc (f_X9_go F S36 a 6) fun x64 S65 => some (x64, S65)) else some (4, S14)
theorem e_X9_takePart {X : gk_X} {F : Nat} {S : gk_S} {a : Nat} {p0 : Nat} {r : (Int32 × gk_S)} (h0 : f_X9_takePart F S a p0 = some r) : EvM X m_X9_takePart 7 0 0 [.ref a, .ref p0] S (qRI r) := by
  unfold f_X9_takePart at h0
  refine ev_method (by decide +kernel) rfl rfl (Nat.le_of_ble_eq_true rfl) ?_
  show EvW X m_X9_takePart 7 0 0 0 [some (.ref a), some (.ref p0)] [] S _
  refine ev_aload_n (pc := 0) (i := 0) rfl rfl rfl dX9_takePart_0 ?_
  obtain ⟨g1, h2⟩ := qk_el h0; clear h0
  obtain ⟨x3, e4, h5⟩ := qv_el h2; clear h2
  refine xv_getIv (pc := 1) fn_703 (isb_el g1) e4 gw_123 dX9_takePart_1 ?_
  refine ev_bipush (pc := 4) (v := 59) (by decide) dX9_takePart_4 ?_
  refine ev_ic_ne (pc := 6) (tgt := 25) (by decide) dX9_takePart_6 (fun c6 => ?_) (fun c6 => ?_)
  · replace h5 := qi_f h5 c6
    refine ev_aload_n (pc := 25) (i := 0) rfl rfl rfl dX9_takePart_25 ?_
    refine ev_aload_n (pc := 26) (i := 0) rfl rfl rfl dX9_takePart_26 ?_
    obtain ⟨x8, S9, e10, h11⟩ := qc_el h5; clear h5
    refine xv_callV (pc := 27) (st := [.ref a]) (as := []) (v := (some (.int x8))) (S' := S9) ok_X9_partHere (e_X9_partHere e10) (isb_el g1) (by decide) rfl (Nat.le_of_ble_eq_true rfl) rfl gw_619 dX9_takePart_27 ?_
    obtain ⟨g12, h13⟩ := qk_el h11; clear h11
    obtain ⟨S14, e15, h16⟩ := qv_el h13; clear h13
    refine yv_putI (pc := 30) fn_709 ⟨rfl, rfl⟩ (isb_el g12) e15 gw_129 dX9_takePart_30 ?_
    refine ev_aload_n (pc := 33) (i := 0) rfl rfl rfl dX9_takePart_33 ?_
    obtain ⟨x17, e18, h19⟩ := qv_el h16; clear h16
    refine xv_getIv (pc := 34) fn_709 (is_sI (isb_el g12) e15) e18 gw_129 dX9_takePart_34 ?_
    refine ev_iconst (pc := 37) (v := -1) (by decide) dX9_takePart_37 ?_
    refine ev_ic_ne (pc := 38) (tgt := 43) (by decide) dX9_takePart_38 (fun c20 => ?_) (fun c20 => ?_)
    · replace h19 := qi_f h19 c20
      refine ev_aload_n (pc := 43) (i := 0) rfl rfl rfl dX9_takePart_43 ?_
      obtain ⟨x22, e23, h24⟩ := qv_el h19; clear h19
      refine xv_getIv (pc := 44) fn_708 (is_sI (isb_el g12) e15) e23 gw_128 dX9_takePart_44 ?_
      refine ev_aload_n (pc := 47) (i := 0) rfl rfl rfl dX9_takePart_47 ?_
      obtain ⟨x25, e26, h27⟩ := qv_el h24; clear h24
      refine xv_getIv (pc := 48) fn_709 (is_sI (isb_el g12) e15) e26 gw_129 dX9_takePart_48 ?_
      refine ev_ishr (pc := 51)  dX9_takePart_51 ?_
      refine ev_iconst (pc := 52) (v := 1) (by decide) dX9_takePart_52 ?_
      refine ev_iand (pc := 53)  dX9_takePart_53 ?_
      refine ev_if_eq (pc := 54) (tgt := 59) (by decide) dX9_takePart_54 (fun c28 => ?_) (fun c28 => ?_)
      · replace h27 := qi_t h27 c28
        refine ev_aload_n (pc := 59) (i := 0) rfl rfl rfl dX9_takePart_59 ?_
        refine ev_dup (pc := 60) (.inr rfl) dX9_takePart_60 ?_
        obtain ⟨x30, e31, h32⟩ := qv_el h27; clear h27
        refine xv_getIv (pc := 61) fn_708 (is_sI (isb_el g12) e15) e31 gw_128 dX9_takePart_61 ?_
        refine ev_iconst (pc := 64) (v := 1) (by decide) dX9_takePart_64 ?_
        refine ev_aload_n (pc := 65) (i := 0) rfl rfl rfl dX9_takePart_65 ?_
        obtain ⟨x33, e34, h35⟩ := qv_el h32; clear h32
        refine xv_getIv (pc := 66) fn_709 (is_sI (isb_el g12) e15) e34 gw_129 dX9_takePart_66 ?_
        refine ev_ishl (pc := 69)  dX9_takePart_69 ?_
        refine ev_ior (pc := 70)  dX9_takePart_70 ?_
        obtain ⟨S36, e37, h38⟩ := qv_el h35; clear h35
        refine yv_putI (pc := 71) fn_708 ⟨rfl, rfl⟩ (is_sI (isb_el g12) e15) e37 gw_128 dX9_takePart_71 ?_
        refine ev_aload_n (pc := 74) (i := 0) rfl rfl rfl dX9_takePart_74 ?_
        obtain ⟨x39, e40, h41⟩ := qv_el h38; clear h38
        refine xv_getIv (pc := 75) fn_709 (is_sI (is_sI (isb_el g12) e15) e37) e40 gw_129 dX9_takePart_75 ?_
        refine ev_bipush (pc := 78) (v := 6) (by decide) dX9_takePart_78 ?_
        refine ev_ic_eq (pc := 80) (tgt := 90) (by decide) dX9_takePart_80 (fun c42 => ?_) (fun c42 => ?_)
        · replace h41 := qi_t h41 c42
          refine ev_aload_n (pc := 90) (i := 1) rfl rfl rfl dX9_takePart_90 ?_
          refine ev_aload_n (pc := 91) (i := 1) rfl rfl rfl dX9_takePart_91 ?_
          obtain ⟨g44, h45⟩ := qk_el h41; clear h41
          obtain ⟨x46, e47, h48⟩ := qv_el h45; clear h45
          refine xv_getIv (pc := 92) fn_401 (isb_el g44) e47 gw_94 dX9_takePart_92 ?_
          obtain ⟨x49, S50, e51, h52⟩ := qc_el h48; clear h48
          refine xv_callV (pc := 95) (st := []) (as := [.int x46]) (v := (some (.ref x49))) (S' := S50) ok_X6_at (e_X6_at e51) (isb_el g44) (by decide) rfl (Nat.le_of_ble_eq_true rfl) rfl gw_573 dX9_takePart_95 ?_
          refine ev_iconst (pc := 98) (v := 0) (by decide) dX9_takePart_98 ?_
          obtain ⟨g53, h54⟩ := qk_el h52; clear h52
          obtain ⟨S55, e56, h57⟩ := qv_el h54; clear h54
          refine yv_putI (pc := 99) fn_302 ⟨rfl, rfl⟩ (isb_el g53) e56 gw_71 dX9_takePart_99 ?_
          refine ev_aload_n (pc := 102) (i := 0) rfl rfl rfl dX9_takePart_102 ?_
          refine ev_bipush (pc := 103) (v := 10) (by decide) dX9_takePart_103 ?_
          obtain ⟨g58, h59⟩ := qk_el h57; clear h57
          obtain ⟨x60, S61, e62, h63⟩ := qc_el h59; clear h59
          refine xv_callV (pc := 105) (st := []) (as := [.int 10]) (v := (some (.int x60))) (S' := S61) ok_X9_go (e_X9_go e62) (isb_el g58) (by decide) rfl (Nat.le_of_ble_eq_true rfl) rfl gw_555 dX9_takePart_105 ?_
          exact ev_ireturn (pc := 108) rfl rfl (by cases h63; rfl) dX9_takePart_108
        · replace h41 := qi_f h41 c42
          refine ev_aload_n (pc := 83) (i := 0) rfl rfl rfl dX9_takePart_83 ?_
          refine ev_bipush (pc := 84) (v := 6) (by decide) dX9_takePart_84 ?_
          obtain ⟨x64, S65, e66, h67⟩ := qc_el h41; clear h41
          refine xv_callV (pc := 86) (st := []) (as := [.int 6]) (v := (some (.int x64))) (S' := S65) ok_X9_go (e_X9_go e66) (is_sI (is_sI (isb_el g12) e15) e37) (by decide) rfl (Nat.le_of_ble_eq_true rfl) rfl gw_555 dX9_takePart_86 ?_
          exact ev_ireturn (pc := 89) rfl rfl (by cases h67; rfl) dX9_takePart_89
      · replace h27 := qi_f h27 c28
        refine ev_iconst (pc := 57) (v := 4) (by decide) dX9_takePart_57 ?_
        exact ev_ireturn (pc := 58) rfl rfl (by cases h27; rfl) dX9_takePart_58
    · replace h19 := qi_t h19 c20
      refine ev_iconst (pc := 41) (v := 2) (by decide) dX9_takePart_41 ?_
      exact ev_ireturn (pc := 42) rfl rfl (by cases h19; rfl) dX9_takePart_42
  · replace h5 := qi_t h5 c6
    refine ev_aload_n (pc := 9) (i := 1) rfl rfl rfl dX9_takePart_9 ?_
    refine ev_dup (pc := 10) (.inr rfl) dX9_takePart_10 ?_
    obtain ⟨g68, h69⟩ := qk_el h5; clear h5
    obtain ⟨x70, e71, h72⟩ := qv_el h69; clear h69
    refine xv_getIv (pc := 11) fn_401 (isb_el g68) e71 gw_94 dX9_takePart_11 ?_
    refine ev_iconst (pc := 14) (v := 1) (by decide) dX9_takePart_14 ?_
    refine ev_iadd (pc := 15)  dX9_takePart_15 ?_
    obtain ⟨S73, e74, h75⟩ := qv_el h72; clear h72
    refine yv_putI (pc := 16) fn_401 ⟨rfl, rfl⟩ (isb_el g68) e74 gw_94 dX9_takePart_16 ?_
    refine ev_aload_n (pc := 19) (i := 0) rfl rfl rfl dX9_takePart_19 ?_
    refine ev_iconst (pc := 20) (v := 4) (by decide) dX9_takePart_20 ?_
    obtain ⟨x76, S77, e78, h79⟩ := qc_el h75; clear h75
    refine xv_callV (pc := 21) (st := []) (as := [.int 4]) (v := (some (.int x76))) (S' := S77) ok_X9_go (e_X9_go e78) (is_sI (isb_el g1) e74) (by decide) rfl (Nat.le_of_ble_eq_true rfl) rfl gw_555 dX9_takePart_21 ?_
    exact ev_ireturn (pc := 24) rfl rfl (by cases h79; rfl) dX9_takePart_24
theorem dX9_takeLastValue_0 : decode cX9_takeLastValue 0 = .ok (.aload_n 0, 1) := by decide +kernel
theorem dX9_takeLastValue_1 : decode cX9_takeLastValue 1 = .ok (.invokevirtual 123, 3) := by decide +kernel
theorem dX9_takeLastValue_4 : decode cX9_takeLastValue 4 = .ok (.ifCond .ne 5, 3) := by decide +kernel
theorem dX9_takeLastValue_7 : decode cX9_takeLastValue 7 = .ok (.iconst 2, 1) := by decide +kernel
theorem dX9_takeLastValue_8 : decode cX9_takeLastValue 8 = .ok (.ireturn, 1) := by decide +kernel
theorem dX9_takeLastValue_9 : decode cX9_takeLastValue 9 = .ok (.aload_n 0, 1) := by decide +kernel
theorem dX9_takeLastValue_10 : decode cX9_takeLastValue 10 = .ok (.getfield 31, 3) := by decide +kernel
theorem dX9_takeLastValue_13 : decode cX9_takeLastValue 13 = .ok (.aload_n 0, 1) := by decide +kernel
theorem dX9_takeLastValue_14 : decode cX9_takeLastValue 14 = .ok (.getfield 44, 3) := by decide +kernel
theorem dX9_takeLastValue_17 : decode cX9_takeLastValue 17 = .ok (.lcmp, 1) := by decide +kernel
theorem dX9_takeLastValue_18 : decode cX9_takeLastValue 18 = .ok (.ifCond .lt 15, 3) := by decide +kernel
theorem dX9_takeLastValue_21 : decode cX9_takeLastValue 21 = .ok (.aload_n 0, 1) := by decide +kernel
theorem dX9_takeLastValue_22 : decode cX9_takeLastValue 22 = .ok (.getfield 31, 3) := by decide +kernel
theorem dX9_takeLastValue_25 : decode cX9_takeLastValue 25 = .ok (.aload_n 0, 1) := by decide +kernel
theorem dX9_takeLastValue_26 : decode cX9_takeLastValue 26 = .ok (.invokevirtual 126, 3) := by decide +kernel
theorem dX9_takeLastValue_29 : decode cX9_takeLastValue 29 = .ok (.lcmp, 1) := by decide +kernel
theorem dX9_takeLastValue_30 : decode cX9_takeLastValue 30 = .ok (.ifCond .le 5, 3) := by decide +kernel
theorem dX9_takeLastValue_33 : decode cX9_takeLastValue 33 = .ok (.iconst 3, 1) := by decide +kernel
theorem dX9_takeLastValue_34 : decode cX9_takeLastValue 34 = .ok (.ireturn, 1) := by decide +kernel
theorem dX9_takeLastValue_35 : decode cX9_takeLastValue 35 = .ok (.aload_n 1, 1) := by decide +kernel
theorem dX9_takeLastValue_36 : decode cX9_takeLastValue 36 = .ok (.aload_n 0, 1) := by decide +kernel
theorem dX9_takeLastValue_37 : decode cX9_takeLastValue 37 = .ok (.getfield 41, 3) := by decide +kernel
theorem dX9_takeLastValue_40 : decode cX9_takeLastValue 40 = .ok (.aload_n 0, 1) := by decide +kernel
theorem dX9_takeLastValue_41 : decode cX9_takeLastValue 41 = .ok (.getfield 44, 3) := by decide +kernel
theorem dX9_takeLastValue_44 : decode cX9_takeLastValue 44 = .ok (.aload_n 0, 1) := by decide +kernel
theorem dX9_takeLastValue_45 : decode cX9_takeLastValue 45 = .ok (.getfield 31, 3) := by decide +kernel
theorem dX9_takeLastValue_48 : decode cX9_takeLastValue 48 = .ok (.invokevirtual 130, 3) := by decide +kernel
theorem dX9_takeLastValue_51 : decode cX9_takeLastValue 51 = .ok (.aload_n 0, 1) := by decide +kernel
theorem dX9_takeLastValue_52 : decode cX9_takeLastValue 52 = .ok (.iconst 5, 1) := by decide +kernel
theorem dX9_takeLastValue_53 : decode cX9_takeLastValue 53 = .ok (.invokevirtual 65, 3) := by decide +kernel
theorem dX9_takeLastValue_56 : decode cX9_takeLastValue 56 = .ok (.ireturn, 1) := by decide +kernel
def f_X9_takeLastValue (F : Nat) (S : gk_S) (a : Nat) (p0 : Nat) : Option (Int32 × gk_S) := qk (isb S a 7) <| qc (f_X9_isValue F S a) fun x3 S4 => if x3 = (0 : Int32) then (some (2, S4)) else qk (isb S4 a 7) <| qv (gJ S4 706 a) fun x11 => qv (gJ S4 710 a) fun x14 => if x11 < x14 then (some (3, S4)) else qv (gJ S4 706 a) fun x19 => qc (f_X9_top F S4 a) fun x22 S23 => if x19 ≤ x22 then (qk (isb S23 a 7) <| qv (gI S23 709 a) fun x30 => qv (gJ S23 710 a) fun x33 => qv (gJ S23 706 a) fun x36 => qk (isb S23 p0 3) <| qc (f_X5_setRange F S23 p0 x30 x33 x36) fun x41 S42 => qk (isb S42 a 7) <| qc (f_X9_go F S42 a 5) fun x47 S48 => some (x47, S48)) else some (3, S23)
theorem e_X9_takeLastValue {X : gk_X} {F : Nat} {S : gk_S} {a : Nat} {p0 : Nat} {r : (Int32 × gk_S)} (h0 : f_X9_takeLastValue F S a p0 = some r) : EvM X m_X9_takeLastValue 3 0 0 [.ref a, .ref p0] S (qRI r) := by
  unfold f_X9_takeLastValue at h0
  refine ev_method (by decide +kernel) rfl rfl (Nat.le_of_ble_eq_true rfl) ?_
  show EvW X m_X9_takeLastValue 3 0 0 0 [some (.ref a), some (.ref p0)] [] S _
  refine ev_aload_n (pc := 0) (i := 0) rfl rfl rfl dX9_takeLastValue_0 ?_
  obtain ⟨g1, h2⟩ := qk_el h0; clear h0
  obtain ⟨x3, S4, e5, h6⟩ := qc_el h2; clear h2
  refine xv_callV (pc := 1) (st := []) (as := []) (v := (some (.int x3))) (S' := S4) ok_X9_isValue (e_X9_isValue e5) (isb_el g1) (by decide) rfl (Nat.le_of_ble_eq_true rfl) rfl gw_602 dX9_takeLastValue_1 ?_
  refine ev_if_ne (pc := 4) (tgt := 9) (by decide) dX9_takeLastValue_4 (fun c7 => ?_) (fun c7 => ?_)
  · replace h6 := qi_f h6 c7
    refine ev_aload_n (pc := 9) (i := 0) rfl rfl rfl dX9_takeLastValue_9 ?_
    obtain ⟨g9, h10⟩ := qk_el h6; clear h6
    obtain ⟨x11, e12, h13⟩ := qv_el h10; clear h10
    refine xv_getJv (pc := 10) fn_706 (isb_el g9) e12 gw_126 dX9_takeLastValue_10 ?_
    refine ev_aload_n (pc := 13) (i := 0) rfl rfl rfl dX9_takeLastValue_13 ?_
    obtain ⟨x14, e15, h16⟩ := qv_el h13; clear h13
    refine xv_getJv (pc := 14) fn_710 (isb_el g9) e15 gw_130 dX9_takeLastValue_14 ?_
    refine ev_lcmp (pc := 17)  dX9_takeLastValue_17 ?_
    refine ev_if_lt (pc := 18) (tgt := 33) (by decide) dX9_takeLastValue_18 (fun c17 => ?_) (fun c17 => ?_)
    · replace h16 := qi_t h16 (lc_lt c17)
      refine ev_iconst (pc := 33) (v := 3) (by decide) dX9_takeLastValue_33 ?_
      exact ev_ireturn (pc := 34) rfl rfl (by cases h16; rfl) dX9_takeLastValue_34
    · replace h16 := qi_f h16 (lc_ltN c17)
      refine ev_aload_n (pc := 21) (i := 0) rfl rfl rfl dX9_takeLastValue_21 ?_
      obtain ⟨x19, e20, h21⟩ := qv_el h16; clear h16
      refine xv_getJv (pc := 22) fn_706 (isb_el g9) e20 gw_126 dX9_takeLastValue_22 ?_
      refine ev_aload_n (pc := 25) (i := 0) rfl rfl rfl dX9_takeLastValue_25 ?_
      obtain ⟨x22, S23, e24, h25⟩ := qc_el h21; clear h21
      refine xv_callV (pc := 26) (st := [.long x19]) (as := []) (v := (some (.long x22))) (S' := S23) ok_X9_top (e_X9_top e24) (isb_el g9) (by decide) rfl (Nat.le_of_ble_eq_true rfl) rfl gw_610 dX9_takeLastValue_26 ?_
      refine ev_lcmp (pc := 29)  dX9_takeLastValue_29 ?_
      refine ev_if_le (pc := 30) (tgt := 35) (by decide) dX9_takeLastValue_30 (fun c26 => ?_) (fun c26 => ?_)
      · replace h25 := qi_t h25 (lc_le c26)
        refine ev_aload_n (pc := 35) (i := 1) rfl rfl rfl dX9_takeLastValue_35 ?_
        refine ev_aload_n (pc := 36) (i := 0) rfl rfl rfl dX9_takeLastValue_36 ?_
        obtain ⟨g28, h29⟩ := qk_el h25; clear h25
        obtain ⟨x30, e31, h32⟩ := qv_el h29; clear h29
        refine xv_getIv (pc := 37) fn_709 (isb_el g28) e31 gw_129 dX9_takeLastValue_37 ?_
        refine ev_aload_n (pc := 40) (i := 0) rfl rfl rfl dX9_takeLastValue_40 ?_
        obtain ⟨x33, e34, h35⟩ := qv_el h32; clear h32
        refine xv_getJv (pc := 41) fn_710 (isb_el g28) e34 gw_130 dX9_takeLastValue_41 ?_
        refine ev_aload_n (pc := 44) (i := 0) rfl rfl rfl dX9_takeLastValue_44 ?_
        obtain ⟨x36, e37, h38⟩ := qv_el h35; clear h35
        refine xv_getJv (pc := 45) fn_706 (isb_el g28) e37 gw_126 dX9_takeLastValue_45 ?_
        obtain ⟨g39, h40⟩ := qk_el h38; clear h38
        obtain ⟨x41, S42, e43, h44⟩ := qc_el h40; clear h40
        refine xv_callV (pc := 48) (st := []) (as := [.int x30, .long x33, .long x36]) (v := none) (S' := S42) ok_X5_setRange (e_X5_setRange e43) (isb_el g39) (by decide) rfl (Nat.le_of_ble_eq_true rfl) rfl gw_598 dX9_takeLastValue_48 ?_
        refine ev_aload_n (pc := 51) (i := 0) rfl rfl rfl dX9_takeLastValue_51 ?_
        refine ev_iconst (pc := 52) (v := 5) (by decide) dX9_takeLastValue_52 ?_
        obtain ⟨g45, h46⟩ := qk_el h44; clear h44
        obtain ⟨x47, S48, e49, h50⟩ := qc_el h46; clear h46
        refine xv_callV (pc := 53) (st := []) (as := [.int 5]) (v := (some (.int x47))) (S' := S48) ok_X9_go (e_X9_go e49) (isb_el g45) (by decide) rfl (Nat.le_of_ble_eq_true rfl) rfl gw_555 dX9_takeLastValue_53 ?_
        exact ev_ireturn (pc := 56) rfl rfl (by cases h50; rfl) dX9_takeLastValue_56
      · replace h25 := qi_f h25 (lc_leN c26)
        refine ev_iconst (pc := 33) (v := 3) (by decide) dX9_takeLastValue_33 ?_
        exact ev_ireturn (pc := 34) rfl rfl (by cases h25; rfl) dX9_takeLastValue_34
  · replace h6 := qi_t h6 c7
    refine ev_iconst (pc := 7) (v := 2) (by decide) dX9_takeLastValue_7 ?_
    exact ev_ireturn (pc := 8) rfl rfl (by cases h6; rfl) dX9_takeLastValue_8
theorem dX9_takeBits_0 : decode cX9_takeBits 0 = .ok (.aload_n 0, 1) := by decide +kernel
theorem dX9_takeBits_1 : decode cX9_takeBits 1 = .ok (.getfield 22, 3) := by decide +kernel
theorem dX9_takeBits_4 : decode cX9_takeBits 4 = .ok (.sipush 258, 3) := by decide +kernel
theorem dX9_takeBits_7 : decode cX9_takeBits 7 = .ok (.if_icmp .eq 5, 3) := by decide +kernel
theorem dX9_takeBits_10 : decode cX9_takeBits 10 = .ok (.iconst 2, 1) := by decide +kernel
theorem dX9_takeBits_11 : decode cX9_takeBits 11 = .ok (.ireturn, 1) := by decide +kernel
theorem dX9_takeBits_12 : decode cX9_takeBits 12 = .ok (.aload_n 0, 1) := by decide +kernel
theorem dX9_takeBits_13 : decode cX9_takeBits 13 = .ok (.getfield 31, 3) := by decide +kernel
theorem dX9_takeBits_16 : decode cX9_takeBits 16 = .ok (.ldc2_w 140, 3) := by decide +kernel
theorem dX9_takeBits_19 : decode cX9_takeBits 19 = .ok (.lcmp, 1) := by decide +kernel
theorem dX9_takeBits_20 : decode cX9_takeBits 20 = .ok (.ifCond .le 5, 3) := by decide +kernel
theorem dX9_takeBits_23 : decode cX9_takeBits 23 = .ok (.iconst 3, 1) := by decide +kernel
theorem dX9_takeBits_24 : decode cX9_takeBits 24 = .ok (.ireturn, 1) := by decide +kernel
theorem dX9_takeBits_25 : decode cX9_takeBits 25 = .ok (.lconst 1, 1) := by decide +kernel
theorem dX9_takeBits_26 : decode cX9_takeBits 26 = .ok (.bipush 32, 2) := by decide +kernel
theorem dX9_takeBits_28 : decode cX9_takeBits 28 = .ok (.aload_n 0, 1) := by decide +kernel
theorem dX9_takeBits_29 : decode cX9_takeBits 29 = .ok (.getfield 31, 3) := by decide +kernel
theorem dX9_takeBits_32 : decode cX9_takeBits 32 = .ok (.l2i, 1) := by decide +kernel
theorem dX9_takeBits_33 : decode cX9_takeBits 33 = .ok (.isub, 1) := by decide +kernel
theorem dX9_takeBits_34 : decode cX9_takeBits 34 = .ok (.lshl, 1) := by decide +kernel
theorem dX9_takeBits_35 : decode cX9_takeBits 35 = .ok (.lconst 1, 1) := by decide +kernel
theorem dX9_takeBits_36 : decode cX9_takeBits 36 = .ok (.lsub, 1) := by decide +kernel
theorem dX9_takeBits_37 : decode cX9_takeBits 37 = .ok (.lstore_n 2, 1) := by decide +kernel
theorem dX9_takeBits_38 : decode cX9_takeBits 38 = .ok (.aload_n 1, 1) := by decide +kernel
theorem dX9_takeBits_39 : decode cX9_takeBits 39 = .ok (.aload_n 0, 1) := by decide +kernel
theorem dX9_takeBits_40 : decode cX9_takeBits 40 = .ok (.getfield 41, 3) := by decide +kernel
theorem dX9_takeBits_43 : decode cX9_takeBits 43 = .ok (.aload_n 0, 1) := by decide +kernel
theorem dX9_takeBits_44 : decode cX9_takeBits 44 = .ok (.getfield 44, 3) := by decide +kernel
theorem dX9_takeBits_47 : decode cX9_takeBits 47 = .ok (.lload_n 2, 1) := by decide +kernel
theorem dX9_takeBits_48 : decode cX9_takeBits 48 = .ok (.ldc2_w 142, 3) := by decide +kernel
theorem dX9_takeBits_51 : decode cX9_takeBits 51 = .ok (.lxor, 1) := by decide +kernel
theorem dX9_takeBits_52 : decode cX9_takeBits 52 = .ok (.land, 1) := by decide +kernel
theorem dX9_takeBits_53 : decode cX9_takeBits 53 = .ok (.aload_n 0, 1) := by decide +kernel
theorem dX9_takeBits_54 : decode cX9_takeBits 54 = .ok (.getfield 44, 3) := by decide +kernel
theorem dX9_takeBits_57 : decode cX9_takeBits 57 = .ok (.lload_n 2, 1) := by decide +kernel
theorem dX9_takeBits_58 : decode cX9_takeBits 58 = .ok (.lor, 1) := by decide +kernel
theorem dX9_takeBits_59 : decode cX9_takeBits 59 = .ok (.invokevirtual 130, 3) := by decide +kernel
theorem dX9_takeBits_62 : decode cX9_takeBits 62 = .ok (.aload_n 0, 1) := by decide +kernel
theorem dX9_takeBits_63 : decode cX9_takeBits 63 = .ok (.iconst 5, 1) := by decide +kernel
theorem dX9_takeBits_64 : decode cX9_takeBits 64 = .ok (.invokevirtual 65, 3) := by decide +kernel
theorem dX9_takeBits_67 : decode cX9_takeBits 67 = .ok (.ireturn, 1) := by decide +kernel
def f_X9_takeBits (F : Nat) (S : gk_S) (a : Nat) (p0 : Nat) : Option (Int32 × gk_S) := qk (isb S a 7) <| qv (gI S 703 a) fun x3 => if x3 = (258 : Int32) then (qv (gJ S 706 a) fun x8 => if x8 ≤ (32 : Int64) then (qv (gJ S 706 a) fun x13 => qv (((1 : Int64) <<< (((32 - ((x13 : Int64).toInt32)) : Int32).toInt64 &&& 63))) fun x16 => qv (gI S 709 a) fun x19 => qv (gJ S 710 a) fun x22 => qv (gJ S 710 a) fun x25 => qk (isb S p0 3) <| qc (f_X5_setRange F S p0 x19 (x22 &&& ((x16 - 1) ^^^ (-1))) (x25 ||| (x16 - 1))) fun x30 S31 => qk (isb S31 a 7) <| qc (f_X9_go F S31 a 5) fun x36 S37 => some (x36, S37)) else some (3, S)) else some (2, S)
theorem e_X9_takeBits {X : gk_X} {F : Nat} {S : gk_S} {a : Nat} {p0 : Nat} {r : (Int32 × gk_S)} (h0 : f_X9_takeBits F S a p0 = some r) : EvM X m_X9_takeBits 2 0 0 [.ref a, .ref p0] S (qRI r) := by
  unfold f_X9_takeBits at h0
  refine ev_method (by decide +kernel) rfl rfl (Nat.le_of_ble_eq_true rfl) ?_
  show EvW X m_X9_takeBits 2 0 0 0 [some (.ref a), some (.ref p0), none, none] [] S _
  refine ev_aload_n (pc := 0) (i := 0) rfl rfl rfl dX9_takeBits_0 ?_
  obtain ⟨g1, h2⟩ := qk_el h0; clear h0
  obtain ⟨x3, e4, h5⟩ := qv_el h2; clear h2
  refine xv_getIv (pc := 1) fn_703 (isb_el g1) e4 gw_123 dX9_takeBits_1 ?_
  refine ev_sipush (pc := 4) (v := 258) (by decide) dX9_takeBits_4 ?_
  refine ev_ic_eq (pc := 7) (tgt := 12) (by decide) dX9_takeBits_7 (fun c6 => ?_) (fun c6 => ?_)
  · replace h5 := qi_t h5 c6
    refine ev_aload_n (pc := 12) (i := 0) rfl rfl rfl dX9_takeBits_12 ?_
    obtain ⟨x8, e9, h10⟩ := qv_el h5; clear h5
    refine xv_getJv (pc := 13) fn_706 (isb_el g1) e9 gw_126 dX9_takeBits_13 ?_
    refine ev_ldc2 (pc := 16) (v := 32) gw_641 dX9_takeBits_16 ?_
    refine ev_lcmp (pc := 19)  dX9_takeBits_19 ?_
    refine ev_if_le (pc := 20) (tgt := 25) (by decide) dX9_takeBits_20 (fun c11 => ?_) (fun c11 => ?_)
    · replace h10 := qi_t h10 (lc_le c11)
      refine ev_lconst (pc := 25) (v := 1) (by decide) dX9_takeBits_25 ?_
      refine ev_bipush (pc := 26) (v := 32) (by decide) dX9_takeBits_26 ?_
      refine ev_aload_n (pc := 28) (i := 0) rfl rfl rfl dX9_takeBits_28 ?_
      obtain ⟨x13, e14, h15⟩ := qv_el h10; clear h10
      refine xv_getJv (pc := 29) fn_706 (isb_el g1) e14 gw_126 dX9_takeBits_29 ?_
      refine ev_l2i (pc := 32)  dX9_takeBits_32 ?_
      refine ev_isub (pc := 33)  dX9_takeBits_33 ?_
      refine ev_lshl (pc := 34)  dX9_takeBits_34 ?_
      obtain ⟨x16, e17, h18⟩ := qv_el h15; clear h15
      refine xv_topl e17 ?_
      refine ev_lconst (pc := 35) (v := 1) (by decide) dX9_takeBits_35 ?_
      refine ev_lsub (pc := 36)  dX9_takeBits_36 ?_
      refine ev_lstore_n (pc := 37) (L' := [some (.ref a), some (.ref p0), some (.long (x16 - 1)), none]) (i := 2) rfl (by decide) rfl rfl dX9_takeBits_37 ?_
      refine ev_aload_n (pc := 38) (i := 1) rfl rfl rfl dX9_takeBits_38 ?_
      refine ev_aload_n (pc := 39) (i := 0) rfl rfl rfl dX9_takeBits_39 ?_
      obtain ⟨x19, e20, h21⟩ := qv_el h18; clear h18
      refine xv_getIv (pc := 40) fn_709 (isb_el g1) e20 gw_129 dX9_takeBits_40 ?_
      refine ev_aload_n (pc := 43) (i := 0) rfl rfl rfl dX9_takeBits_43 ?_
      obtain ⟨x22, e23, h24⟩ := qv_el h21; clear h21
      refine xv_getJv (pc := 44) fn_710 (isb_el g1) e23 gw_130 dX9_takeBits_44 ?_
      refine ev_lload_n (pc := 47) (i := 2) rfl rfl dX9_takeBits_47 ?_
      refine ev_ldc2 (pc := 48) (v := -1) gw_642 dX9_takeBits_48 ?_
      refine ev_lxor (pc := 51)  dX9_takeBits_51 ?_
      refine ev_land (pc := 52)  dX9_takeBits_52 ?_
      refine ev_aload_n (pc := 53) (i := 0) rfl rfl rfl dX9_takeBits_53 ?_
      obtain ⟨x25, e26, h27⟩ := qv_el h24; clear h24
      refine xv_getJv (pc := 54) fn_710 (isb_el g1) e26 gw_130 dX9_takeBits_54 ?_
      refine ev_lload_n (pc := 57) (i := 2) rfl rfl dX9_takeBits_57 ?_
      refine ev_lor (pc := 58)  dX9_takeBits_58 ?_
      obtain ⟨g28, h29⟩ := qk_el h27; clear h27
      obtain ⟨x30, S31, e32, h33⟩ := qc_el h29; clear h29
      refine xv_callV (pc := 59) (st := []) (as := [.int x19, .long (x22 &&& ((x16 - 1) ^^^ (-1))), .long (x25 ||| (x16 - 1))]) (v := none) (S' := S31) ok_X5_setRange (e_X5_setRange e32) (isb_el g28) (by decide) rfl (Nat.le_of_ble_eq_true rfl) rfl gw_598 dX9_takeBits_59 ?_
      refine ev_aload_n (pc := 62) (i := 0) rfl rfl rfl dX9_takeBits_62 ?_
      refine ev_iconst (pc := 63) (v := 5) (by decide) dX9_takeBits_63 ?_
      obtain ⟨g34, h35⟩ := qk_el h33; clear h33
      obtain ⟨x36, S37, e38, h39⟩ := qc_el h35; clear h35
      refine xv_callV (pc := 64) (st := []) (as := [.int 5]) (v := (some (.int x36))) (S' := S37) ok_X9_go (e_X9_go e38) (isb_el g34) (by decide) rfl (Nat.le_of_ble_eq_true rfl) rfl gw_555 dX9_takeBits_64 ?_
      exact ev_ireturn (pc := 67) rfl rfl (by cases h39; rfl) dX9_takeBits_67
    · replace h10 := qi_f h10 (lc_leN c11)
      refine ev_iconst (pc := 23) (v := 3) (by decide) dX9_takeBits_23 ?_
      exact ev_ireturn (pc := 24) rfl rfl (by cases h10; rfl) dX9_takeBits_24
  · replace h5 := qi_f h5 c6
    refine ev_iconst (pc := 10) (v := 2) (by decide) dX9_takeBits_10 ?_
    exact ev_ireturn (pc := 11) rfl rfl (by cases h5; rfl) dX9_takeBits_11
theorem dX11_stateWord_0 : decode cX11_stateWord 0 = .ok (.iload_n 0, 1) := by decide +kernel
theorem dX11_stateWord_1 : decode cX11_stateWord 1 = .ok (.tableswitch 39 0 2 #[27, 31, 35], 27) := by decide +kernel
theorem dX11_stateWord_28 : decode cX11_stateWord 28 = .ok (.ldc_w 306, 3) := by decide +kernel
theorem dX11_stateWord_31 : decode cX11_stateWord 31 = .ok (.areturn, 1) := by decide +kernel
theorem dX11_stateWord_32 : decode cX11_stateWord 32 = .ok (.ldc_w 308, 3) := by decide +kernel
theorem dX11_stateWord_35 : decode cX11_stateWord 35 = .ok (.areturn, 1) := by decide +kernel
theorem dX11_stateWord_36 : decode cX11_stateWord 36 = .ok (.ldc_w 310, 3) := by decide +kernel
theorem dX11_stateWord_39 : decode cX11_stateWord 39 = .ok (.areturn, 1) := by decide +kernel
theorem dX11_stateWord_40 : decode cX11_stateWord 40 = .ok (.ldc_w 312, 3) := by decide +kernel
theorem dX11_stateWord_43 : decode cX11_stateWord 43 = .ok (.areturn, 1) := by decide +kernel
def f_X11_stateWord (F : Nat) (S : gk_S) (p0 : Int32) : Option (Nat × gk_S) := if p0 = 0 then (some (15, S)) else if p0 = 1 then (some (16, S)) else if p0 = 2 then (some (17, S)) else some (18, S)
theorem e_X11_stateWord {X : gk_X} {F : Nat} {S : gk_S} {p0 : Int32} {r : (Nat × gk_S)} (h0 : f_X11_stateWord F S p0 = some r) : EvM X m_X11_stateWord 1 0 0 [.int p0] S (qRT r) := by
  unfold f_X11_stateWord at h0
  refine ev_method (by decide +kernel) rfl rfl (Nat.le_of_ble_eq_true rfl) ?_
  show EvW X m_X11_stateWord 1 0 0 0 [some (.int p0)] [] S _
  refine ev_iload_n (pc := 0) (i := 0) rfl rfl dX11_stateWord_0 ?_
  by_cases c1 : p0 = 0
  · refine ev_tableIn (pc := 1) (off := 27) (tgt := 28) (by rw [c1]; decide) (by rw [c1]; decide) (by rw [c1]; rfl) (by decide) dX11_stateWord_1 ?_
    replace h0 := qi_t h0 c1
    refine ev_ldcSW (pc := 28) (i := 15) (by decide) rfl rfl dX11_stateWord_28 ?_
    exact ev_areturn (pc := 31) rfl (by first | exact .inl ⟨_, rfl⟩ | exact .inr ⟨_, rfl⟩) rfl (by cases h0; rfl) dX11_stateWord_31
  replace h0 := qi_f h0 c1
  by_cases c2 : p0 = 1
  · refine ev_tableIn (pc := 1) (off := 31) (tgt := 32) (by rw [c2]; decide) (by rw [c2]; decide) (by rw [c2]; rfl) (by decide) dX11_stateWord_1 ?_
    replace h0 := qi_t h0 c2
    refine ev_ldcSW (pc := 32) (i := 16) (by decide) rfl rfl dX11_stateWord_32 ?_
    exact ev_areturn (pc := 35) rfl (by first | exact .inl ⟨_, rfl⟩ | exact .inr ⟨_, rfl⟩) rfl (by cases h0; rfl) dX11_stateWord_35
  replace h0 := qi_f h0 c2
  by_cases c3 : p0 = 2
  · refine ev_tableIn (pc := 1) (off := 35) (tgt := 36) (by rw [c3]; decide) (by rw [c3]; decide) (by rw [c3]; rfl) (by decide) dX11_stateWord_1 ?_
    replace h0 := qi_t h0 c3
    refine ev_ldcSW (pc := 36) (i := 17) (by decide) rfl rfl dX11_stateWord_36 ?_
    exact ev_areturn (pc := 39) rfl (by first | exact .inl ⟨_, rfl⟩ | exact .inr ⟨_, rfl⟩) rfl (by cases h0; rfl) dX11_stateWord_39
  replace h0 := qi_f h0 c3
  refine ev_tableOut (pc := 1) (tgt := 40) (by have z0 := ti_ne c1 (n := 0) rfl; have z1 := ti_ne c2 (n := 1) rfl; have z2 := ti_ne c3 (n := 2) rfl; omega) (by decide) dX11_stateWord_1 ?_
  refine ev_ldcSW (pc := 40) (i := 18) (by decide) rfl rfl dX11_stateWord_40 ?_
  exact ev_areturn (pc := 43) rfl (by first | exact .inl ⟨_, rfl⟩ | exact .inr ⟨_, rfl⟩) rfl (by cases h0; rfl) dX11_stateWord_43
theorem dX9_stateHere_0 : decode cX9_stateHere 0 = .ok (.iconst 0, 1) := by decide +kernel
theorem dX9_stateHere_1 : decode cX9_stateHere 1 = .ok (.istore_n 1, 1) := by decide +kernel
theorem dX9_stateHere_2 : decode cX9_stateHere 2 = .ok (.iload_n 1, 1) := by decide +kernel
theorem dX9_stateHere_3 : decode cX9_stateHere 3 = .ok (.iconst 4, 1) := by decide +kernel
theorem dX9_stateHere_4 : decode cX9_stateHere 4 = .ok (.if_icmp .ge 22, 3) := by decide +kernel
theorem dX9_stateHere_7 : decode cX9_stateHere 7 = .ok (.aload_n 0, 1) := by decide +kernel
theorem dX9_stateHere_8 : decode cX9_stateHere 8 = .ok (.iload_n 1, 1) := by decide +kernel
theorem dX9_stateHere_9 : decode cX9_stateHere 9 = .ok (.invokestatic 158, 3) := by decide +kernel
theorem dX9_stateHere_12 : decode cX9_stateHere 12 = .ok (.invokevirtual 61, 3) := by decide +kernel
theorem dX9_stateHere_15 : decode cX9_stateHere 15 = .ok (.ifCond .eq 5, 3) := by decide +kernel
theorem dX9_stateHere_18 : decode cX9_stateHere 18 = .ok (.iload_n 1, 1) := by decide +kernel
theorem dX9_stateHere_19 : decode cX9_stateHere 19 = .ok (.ireturn, 1) := by decide +kernel
theorem dX9_stateHere_20 : decode cX9_stateHere 20 = .ok (.iinc 1 1, 3) := by decide +kernel
theorem dX9_stateHere_23 : decode cX9_stateHere 23 = .ok (.goto (-21), 3) := by decide +kernel
theorem dX9_stateHere_26 : decode cX9_stateHere 26 = .ok (.iconst (-1), 1) := by decide +kernel
theorem dX9_stateHere_27 : decode cX9_stateHere 27 = .ok (.ireturn, 1) := by decide +kernel
def f_X9_stateHere_2 (F : Nat) : Nat → Nat → Int32 → gk_S → Option (Int32 × gk_S)
  | 0, _, _, _ => none
  | n + 1, l0, l1, S => if (4 : Int32) ≤ l1 then (some ((-1), S)) else qc (f_X11_stateWord F S l1) fun x3 S4 => qk (isb S4 l0 7) <| qc (f_X9_isWord F S4 l0 x3) fun x9 S10 => if x9 = (0 : Int32) then (f_X9_stateHere_2 F n l0 (l1 + 1) S10) else some (l1, S10)
theorem e_X9_stateHere_2 {X : gk_X} {F : Nat} : ∀ (n : Nat) (l0 : Nat) (l1 : Int32) (S : gk_S) (r : (Int32 × gk_S)), f_X9_stateHere_2 F n l0 l1 S = some r → EvW X m_X9_stateHere 6 0 0 2 [some (.ref l0), some (.int l1)] [] S (qRI r) := by
  intro n
  induction n with
  | zero => intro l0 l1 S r h0; rw [f_X9_stateHere_2] at h0; cases h0
  | succ n ih =>
    intro l0 l1 S r h0; rw [f_X9_stateHere_2] at h0
    refine ev_iload_n (pc := 2) (i := 1) rfl rfl dX9_stateHere_2 ?_
    refine ev_iconst (pc := 3) (v := 4) (by decide) dX9_stateHere_3 ?_
    refine ev_ic_ge (pc := 4) (tgt := 26) (by decide) dX9_stateHere_4 (fun c1 => ?_) (fun c1 => ?_)
    · replace h0 := qi_t h0 c1
      refine ev_iconst (pc := 26) (v := -1) (by decide) dX9_stateHere_26 ?_
      exact ev_ireturn (pc := 27) rfl rfl (by cases h0; rfl) dX9_stateHere_27
    · replace h0 := qi_f h0 c1
      refine ev_aload_n (pc := 7) (i := 0) rfl rfl rfl dX9_stateHere_7 ?_
      refine ev_iload_n (pc := 8) (i := 1) rfl rfl dX9_stateHere_8 ?_
      obtain ⟨x3, S4, e5, h6⟩ := qc_el h0; clear h0
      refine xv_callSN (pc := 9) (st := [.ref l0]) (as := [.int l1]) (v := (some (.retAddr (10 + x3)))) (S' := S4) (host := "GateHouse") ok_X11_stateWord (e_X11_stateWord e5) (by decide) rfl (Nat.le_of_ble_eq_true rfl) rfl (by decide +kernel) dX9_stateHere_9 ?_
      obtain ⟨g7, h8⟩ := qk_el h6; clear h6
      obtain ⟨x9, S10, e11, h12⟩ := qc_el h8; clear h8
      refine xv_callV (pc := 12) (st := []) (as := [.retAddr (10 + x3)]) (v := (some (.int x9))) (S' := S10) ok_X9_isWord (e_X9_isWord e11) (isb_el g7) (by decide) rfl (Nat.le_of_ble_eq_true rfl) rfl gw_503 dX9_stateHere_12 ?_
      refine ev_if_eq (pc := 15) (tgt := 20) (by decide) dX9_stateHere_15 (fun c13 => ?_) (fun c13 => ?_)
      · replace h12 := qi_t h12 c13
        refine ev_iinc (pc := 20) (L' := [some (.ref l0), some (.int (l1 + 1))]) (i := 1) (v := (l1 + 1)) rfl rfl (by decide) rfl rfl dX9_stateHere_20 ?_
        refine ev_goto (pc := 23) (tgt := 2) (by decide) dX9_stateHere_23 ?_
        exact (ev_weak (qL_s (qL_s qL_nil)) (ih _ _ _ _ h12))
      · replace h12 := qi_f h12 c13
        refine ev_iload_n (pc := 18) (i := 1) rfl rfl dX9_stateHere_18 ?_
        exact ev_ireturn (pc := 19) rfl rfl (by cases h12; rfl) dX9_stateHere_19
def f_X9_stateHere (F : Nat) (S : gk_S) (a : Nat) : Option (Int32 × gk_S) := f_X9_stateHere_2 F F a 0 S
theorem e_X9_stateHere {X : gk_X} {F : Nat} {S : gk_S} {a : Nat} {r : (Int32 × gk_S)} (h0 : f_X9_stateHere F S a = some r) : EvM X m_X9_stateHere 6 0 0 [.ref a] S (qRI r) := by
  unfold f_X9_stateHere at h0
  refine ev_method (by decide +kernel) rfl rfl (Nat.le_of_ble_eq_true rfl) ?_
  show EvW X m_X9_stateHere 6 0 0 0 [some (.ref a), none] [] S _
  refine ev_iconst (pc := 0) (v := 0) (by decide) dX9_stateHere_0 ?_
  refine ev_istore_n (pc := 1) (L' := [some (.ref a), some (.int 0)]) (i := 1) rfl (by decide) rfl rfl dX9_stateHere_1 ?_
  exact ev_weak (qL_s (qL_s qL_nil)) (e_X9_stateHere_2 F _ _ _ _ h0)
theorem dX9_takeState_0 : decode cX9_takeState 0 = .ok (.aload_n 0, 1) := by decide +kernel
theorem dX9_takeState_1 : decode cX9_takeState 1 = .ok (.invokevirtual 144, 3) := by decide +kernel
theorem dX9_takeState_4 : decode cX9_takeState 4 = .ok (.istore_n 2, 1) := by decide +kernel
theorem dX9_takeState_5 : decode cX9_takeState 5 = .ok (.iload_n 2, 1) := by decide +kernel
theorem dX9_takeState_6 : decode cX9_takeState 6 = .ok (.iconst (-1), 1) := by decide +kernel
theorem dX9_takeState_7 : decode cX9_takeState 7 = .ok (.if_icmp .ne 5, 3) := by decide +kernel
theorem dX9_takeState_10 : decode cX9_takeState 10 = .ok (.iconst 2, 1) := by decide +kernel
theorem dX9_takeState_11 : decode cX9_takeState 11 = .ok (.ireturn, 1) := by decide +kernel
theorem dX9_takeState_12 : decode cX9_takeState 12 = .ok (.aload_n 1, 1) := by decide +kernel
theorem dX9_takeState_13 : decode cX9_takeState 13 = .ok (.dup, 1) := by decide +kernel
theorem dX9_takeState_14 : decode cX9_takeState 14 = .ok (.getfield 117, 3) := by decide +kernel
theorem dX9_takeState_17 : decode cX9_takeState 17 = .ok (.iconst 1, 1) := by decide +kernel
theorem dX9_takeState_18 : decode cX9_takeState 18 = .ok (.iload_n 2, 1) := by decide +kernel
theorem dX9_takeState_19 : decode cX9_takeState 19 = .ok (.ishl, 1) := by decide +kernel
theorem dX9_takeState_20 : decode cX9_takeState 20 = .ok (.ior, 1) := by decide +kernel
theorem dX9_takeState_21 : decode cX9_takeState 21 = .ok (.putfield 117, 3) := by decide +kernel
theorem dX9_takeState_24 : decode cX9_takeState 24 = .ok (.aload_n 0, 1) := by decide +kernel
theorem dX9_takeState_25 : decode cX9_takeState 25 = .ok (.bipush 11, 2) := by decide +kernel
theorem dX9_takeState_27 : decode cX9_takeState 27 = .ok (.invokevirtual 65, 3) := by decide +kernel
theorem dX9_takeState_30 : decode cX9_takeState 30 = .ok (.ireturn, 1) := by decide +kernel
def f_X9_takeState (F : Nat) (S : gk_S) (a : Nat) (p0 : Nat) : Option (Int32 × gk_S) := qk (isb S a 7) <| qc (f_X9_stateHere F S a) fun x3 S4 => if x3 = ((-1) : Int32) then (some (2, S4)) else qk (isb S4 p0 3) <| qv (gI S4 302 p0) fun x11 => qv (sI S4 302 p0 (x11 ||| ((1 : Int32) <<< ((x3 : Int32) &&& 31)))) fun S14 => qk (isb S14 a 7) <| qc (f_X9_go F S14 a 11) fun x19 S20 => some (x19, S20)
theorem e_X9_takeState {X : gk_X} {F : Nat} {S : gk_S} {a : Nat} {p0 : Nat} {r : (Int32 × gk_S)} (h0 : f_X9_takeState F S a p0 = some r) : EvM X m_X9_takeState 7 0 0 [.ref a, .ref p0] S (qRI r) := by
  unfold f_X9_takeState at h0
  refine ev_method (by decide +kernel) rfl rfl (Nat.le_of_ble_eq_true rfl) ?_
  show EvW X m_X9_takeState 7 0 0 0 [some (.ref a), some (.ref p0), none] [] S _
  refine ev_aload_n (pc := 0) (i := 0) rfl rfl rfl dX9_takeState_0 ?_
  obtain ⟨g1, h2⟩ := qk_el h0; clear h0
  obtain ⟨x3, S4, e5, h6⟩ := qc_el h2; clear h2
  refine xv_callV (pc := 1) (st := []) (as := []) (v := (some (.int x3))) (S' := S4) ok_X9_stateHere (e_X9_stateHere e5) (isb_el g1) (by decide) rfl (Nat.le_of_ble_eq_true rfl) rfl gw_647 dX9_takeState_1 ?_
  refine ev_istore_n (pc := 4) (L' := [some (.ref a), some (.ref p0), some (.int x3)]) (i := 2) rfl (by decide) rfl rfl dX9_takeState_4 ?_
  refine ev_iload_n (pc := 5) (i := 2) rfl rfl dX9_takeState_5 ?_
  refine ev_iconst (pc := 6) (v := -1) (by decide) dX9_takeState_6 ?_
  refine ev_ic_ne (pc := 7) (tgt := 12) (by decide) dX9_takeState_7 (fun c7 => ?_) (fun c7 => ?_)
  · replace h6 := qi_f h6 c7
    refine ev_aload_n (pc := 12) (i := 1) rfl rfl rfl dX9_takeState_12 ?_
    refine ev_dup (pc := 13) (.inr rfl) dX9_takeState_13 ?_
    obtain ⟨g9, h10⟩ := qk_el h6; clear h6
    obtain ⟨x11, e12, h13⟩ := qv_el h10; clear h10
    refine xv_getIv (pc := 14) fn_302 (isb_el g9) e12 gw_71 dX9_takeState_14 ?_
    refine ev_iconst (pc := 17) (v := 1) (by decide) dX9_takeState_17 ?_
    refine ev_iload_n (pc := 18) (i := 2) rfl rfl dX9_takeState_18 ?_
    refine ev_ishl (pc := 19)  dX9_takeState_19 ?_
    refine ev_ior (pc := 20)  dX9_takeState_20 ?_
    obtain ⟨S14, e15, h16⟩ := qv_el h13; clear h13
    refine yv_putI (pc := 21) fn_302 ⟨rfl, rfl⟩ (isb_el g9) e15 gw_71 dX9_takeState_21 ?_
    refine ev_aload_n (pc := 24) (i := 0) rfl rfl rfl dX9_takeState_24 ?_
    refine ev_bipush (pc := 25) (v := 11) (by decide) dX9_takeState_25 ?_
    obtain ⟨g17, h18⟩ := qk_el h16; clear h16
    obtain ⟨x19, S20, e21, h22⟩ := qc_el h18; clear h18
    refine xv_callV (pc := 27) (st := []) (as := [.int 11]) (v := (some (.int x19))) (S' := S20) ok_X9_go (e_X9_go e21) (isb_el g17) (by decide) rfl (Nat.le_of_ble_eq_true rfl) rfl gw_555 dX9_takeState_27 ?_
    exact ev_ireturn (pc := 30) rfl rfl (by cases h22; rfl) dX9_takeState_30
  · replace h6 := qi_t h6 c7
    refine ev_iconst (pc := 10) (v := 2) (by decide) dX9_takeState_10 ?_
    exact ev_ireturn (pc := 11) rfl rfl (by cases h6; rfl) dX9_takeState_11
theorem dX9_take_0 : decode cX9_take 0 = .ok (.aload_n 0, 1) := by decide +kernel
theorem dX9_take_1 : decode cX9_take 1 = .ok (.getfield 35, 3) := by decide +kernel
theorem dX9_take_4 : decode cX9_take 4 = .ok (.tableswitch 237 1 11 #[60, 83, 89, 108, 237, 114, 127, 174, 187, 200, 213], 60) := by decide +kernel
theorem dX9_take_64 : decode cX9_take 64 = .ok (.aload_n 0, 1) := by decide +kernel
theorem dX9_take_65 : decode cX9_take 65 = .ok (.ldc 59, 2) := by decide +kernel
theorem dX9_take_67 : decode cX9_take 67 = .ok (.invokevirtual 61, 3) := by decide +kernel
theorem dX9_take_70 : decode cX9_take 70 = .ok (.ifCond .eq 11, 3) := by decide +kernel
theorem dX9_take_73 : decode cX9_take 73 = .ok (.aload_n 0, 1) := by decide +kernel
theorem dX9_take_74 : decode cX9_take 74 = .ok (.iconst 2, 1) := by decide +kernel
theorem dX9_take_75 : decode cX9_take 75 = .ok (.invokevirtual 65, 3) := by decide +kernel
theorem dX9_take_78 : decode cX9_take 78 = .ok (.goto 8, 3) := by decide +kernel
theorem dX9_take_81 : decode cX9_take 81 = .ok (.aload_n 0, 1) := by decide +kernel
theorem dX9_take_82 : decode cX9_take 82 = .ok (.aload_n 1, 1) := by decide +kernel
theorem dX9_take_83 : decode cX9_take 83 = .ok (.invokevirtual 69, 3) := by decide +kernel
theorem dX9_take_86 : decode cX9_take 86 = .ok (.ireturn, 1) := by decide +kernel
theorem dX9_take_87 : decode cX9_take 87 = .ok (.aload_n 0, 1) := by decide +kernel
theorem dX9_take_88 : decode cX9_take 88 = .ok (.aload_n 1, 1) := by decide +kernel
theorem dX9_take_89 : decode cX9_take 89 = .ok (.invokevirtual 72, 3) := by decide +kernel
theorem dX9_take_92 : decode cX9_take 92 = .ok (.ireturn, 1) := by decide +kernel
theorem dX9_take_93 : decode cX9_take 93 = .ok (.aload_n 0, 1) := by decide +kernel
theorem dX9_take_94 : decode cX9_take 94 = .ok (.getfield 22, 3) := by decide +kernel
theorem dX9_take_97 : decode cX9_take 97 = .ok (.bipush 59, 2) := by decide +kernel
theorem dX9_take_99 : decode cX9_take 99 = .ok (.if_icmp .ne 11, 3) := by decide +kernel
theorem dX9_take_102 : decode cX9_take 102 = .ok (.aload_n 0, 1) := by decide +kernel
theorem dX9_take_103 : decode cX9_take 103 = .ok (.iconst 4, 1) := by decide +kernel
theorem dX9_take_104 : decode cX9_take 104 = .ok (.invokevirtual 65, 3) := by decide +kernel
theorem dX9_take_107 : decode cX9_take 107 = .ok (.goto 4, 3) := by decide +kernel
theorem dX9_take_110 : decode cX9_take 110 = .ok (.iconst 2, 1) := by decide +kernel
theorem dX9_take_111 : decode cX9_take 111 = .ok (.ireturn, 1) := by decide +kernel
theorem dX9_take_112 : decode cX9_take 112 = .ok (.aload_n 0, 1) := by decide +kernel
theorem dX9_take_113 : decode cX9_take 113 = .ok (.aload_n 1, 1) := by decide +kernel
theorem dX9_take_114 : decode cX9_take 114 = .ok (.invokevirtual 69, 3) := by decide +kernel
theorem dX9_take_117 : decode cX9_take 117 = .ok (.ireturn, 1) := by decide +kernel
theorem dX9_take_118 : decode cX9_take 118 = .ok (.aload_n 0, 1) := by decide +kernel
theorem dX9_take_119 : decode cX9_take 119 = .ok (.aload_n 1, 1) := by decide +kernel
theorem dX9_take_120 : decode cX9_take 120 = .ok (.aload_n 1, 1) := by decide +kernel
theorem dX9_take_121 : decode cX9_take 121 = .ok (.getfield 75, 3) := by decide +kernel
theorem dX9_take_124 : decode cX9_take 124 = .ok (.invokevirtual 78, 3) := by decide +kernel
theorem dX9_take_127 : decode cX9_take 127 = .ok (.invokevirtual 82, 3) := by decide +kernel
theorem dX9_take_130 : decode cX9_take 130 = .ok (.ireturn, 1) := by decide +kernel
theorem dX9_take_131 : decode cX9_take 131 = .ok (.aload_n 0, 1) := by decide +kernel
theorem dX9_take_132 : decode cX9_take 132 = .ok (.getfield 22, 3) := by decide +kernel
theorem dX9_take_135 : decode cX9_take 135 = .ok (.bipush 45, 2) := by decide +kernel
theorem dX9_take_137 : decode cX9_take 137 = .ok (.if_icmp .ne 10, 3) := by decide +kernel
theorem dX9_take_140 : decode cX9_take 140 = .ok (.aload_n 0, 1) := by decide +kernel
theorem dX9_take_141 : decode cX9_take 141 = .ok (.bipush 8, 2) := by decide +kernel
theorem dX9_take_143 : decode cX9_take 143 = .ok (.invokevirtual 65, 3) := by decide +kernel
theorem dX9_take_146 : decode cX9_take 146 = .ok (.ireturn, 1) := by decide +kernel
theorem dX9_take_147 : decode cX9_take 147 = .ok (.aload_n 0, 1) := by decide +kernel
theorem dX9_take_148 : decode cX9_take 148 = .ok (.getfield 22, 3) := by decide +kernel
theorem dX9_take_151 : decode cX9_take 151 = .ok (.bipush 47, 2) := by decide +kernel
theorem dX9_take_153 : decode cX9_take 153 = .ok (.if_icmp .ne 19, 3) := by decide +kernel
theorem dX9_take_156 : decode cX9_take 156 = .ok (.aload_n 0, 1) := by decide +kernel
theorem dX9_take_157 : decode cX9_take 157 = .ok (.invokevirtual 86, 3) := by decide +kernel
theorem dX9_take_160 : decode cX9_take 160 = .ok (.ifCond .eq 12, 3) := by decide +kernel
theorem dX9_take_163 : decode cX9_take 163 = .ok (.aload_n 0, 1) := by decide +kernel
theorem dX9_take_164 : decode cX9_take 164 = .ok (.bipush 9, 2) := by decide +kernel
theorem dX9_take_166 : decode cX9_take 166 = .ok (.invokevirtual 65, 3) := by decide +kernel
theorem dX9_take_169 : decode cX9_take 169 = .ok (.goto 8, 3) := by decide +kernel
theorem dX9_take_172 : decode cX9_take 172 = .ok (.aload_n 0, 1) := by decide +kernel
theorem dX9_take_173 : decode cX9_take 173 = .ok (.aload_n 1, 1) := by decide +kernel
theorem dX9_take_174 : decode cX9_take 174 = .ok (.invokevirtual 90, 3) := by decide +kernel
theorem dX9_take_177 : decode cX9_take 177 = .ok (.ireturn, 1) := by decide +kernel
theorem dX9_take_178 : decode cX9_take 178 = .ok (.aload_n 0, 1) := by decide +kernel
theorem dX9_take_179 : decode cX9_take 179 = .ok (.aload_n 1, 1) := by decide +kernel
theorem dX9_take_180 : decode cX9_take 180 = .ok (.aload_n 1, 1) := by decide +kernel
theorem dX9_take_181 : decode cX9_take 181 = .ok (.getfield 75, 3) := by decide +kernel
theorem dX9_take_184 : decode cX9_take 184 = .ok (.invokevirtual 78, 3) := by decide +kernel
theorem dX9_take_187 : decode cX9_take 187 = .ok (.invokevirtual 93, 3) := by decide +kernel
theorem dX9_take_190 : decode cX9_take 190 = .ok (.ireturn, 1) := by decide +kernel
theorem dX9_take_191 : decode cX9_take 191 = .ok (.aload_n 0, 1) := by decide +kernel
theorem dX9_take_192 : decode cX9_take 192 = .ok (.aload_n 1, 1) := by decide +kernel
theorem dX9_take_193 : decode cX9_take 193 = .ok (.aload_n 1, 1) := by decide +kernel
theorem dX9_take_194 : decode cX9_take 194 = .ok (.getfield 75, 3) := by decide +kernel
theorem dX9_take_197 : decode cX9_take 197 = .ok (.invokevirtual 78, 3) := by decide +kernel
theorem dX9_take_200 : decode cX9_take 200 = .ok (.invokevirtual 96, 3) := by decide +kernel
theorem dX9_take_203 : decode cX9_take 203 = .ok (.ireturn, 1) := by decide +kernel
theorem dX9_take_204 : decode cX9_take 204 = .ok (.aload_n 0, 1) := by decide +kernel
theorem dX9_take_205 : decode cX9_take 205 = .ok (.aload_n 1, 1) := by decide +kernel
theorem dX9_take_206 : decode cX9_take 206 = .ok (.aload_n 1, 1) := by decide +kernel
theorem dX9_take_207 : decode cX9_take 207 = .ok (.getfield 75, 3) := by decide +kernel
theorem dX9_take_210 : decode cX9_take 210 = .ok (.invokevirtual 78, 3) := by decide +kernel
theorem dX9_take_213 : decode cX9_take 213 = .ok (.invokevirtual 99, 3) := by decide +kernel
theorem dX9_take_216 : decode cX9_take 216 = .ok (.ireturn, 1) := by decide +kernel
theorem dX9_take_217 : decode cX9_take 217 = .ok (.aload_n 0, 1) := by decide +kernel
theorem dX9_take_218 : decode cX9_take 218 = .ok (.getfield 22, 3) := by decide +kernel
theorem dX9_take_221 : decode cX9_take 221 = .ok (.bipush 44, 2) := by decide +kernel
theorem dX9_take_223 : decode cX9_take 223 = .ok (.if_icmp .ne 12, 3) := by decide +kernel
theorem dX9_take_226 : decode cX9_take 226 = .ok (.aload_n 0, 1) := by decide +kernel
theorem dX9_take_227 : decode cX9_take 227 = .ok (.bipush 10, 2) := by decide +kernel
theorem dX9_take_229 : decode cX9_take 229 = .ok (.invokevirtual 65, 3) := by decide +kernel
theorem dX9_take_232 : decode cX9_take 232 = .ok (.goto 8, 3) := by decide +kernel
theorem dX9_take_235 : decode cX9_take 235 = .ok (.aload_n 0, 1) := by decide +kernel
theorem dX9_take_236 : decode cX9_take 236 = .ok (.aload_n 1, 1) := by decide +kernel
theorem dX9_take_237 : decode cX9_take 237 = .ok (.invokevirtual 90, 3) := by decide +kernel
theorem dX9_take_240 : decode cX9_take 240 = .ok (.ireturn, 1) := by decide +kernel
theorem dX9_take_241 : decode cX9_take 241 = .ok (.aload_n 0, 1) := by decide +kernel
theorem dX9_take_242 : decode cX9_take 242 = .ok (.aload_n 1, 1) := by decide +kernel
theorem dX9_take_243 : decode cX9_take 243 = .ok (.invokevirtual 90, 3) := by decide +kernel
theorem dX9_take_246 : decode cX9_take 246 = .ok (.ireturn, 1) := by decide +kernel
def f_X9_take_172 (F : Nat) (l0 : Nat) (l1 : Nat) (S : gk_S) : Option (Int32 × gk_S) := qk (isb S l0 7) <| qc (f_X9_takePart F S l0 l1) fun x79 S80 => some (x79, S80)
theorem e_X9_take_172 {X : gk_X} {F : Nat} {l0 : Nat} {l1 : Nat} {S : gk_S} {r : (Int32 × gk_S)} (h0 : f_X9_take_172 F l0 l1 S = some r) : EvW X m_X9_take 8 0 0 172 [some (.ref l0), some (.ref l1)] [] S (qRI r) := by
  unfold f_X9_take_172 at h0
  refine ev_aload_n (pc := 172) (i := 0) rfl rfl rfl dX9_take_172 ?_
  refine ev_aload_n (pc := 173) (i := 1) rfl rfl rfl dX9_take_173 ?_
  obtain ⟨g77, h78⟩ := qk_el h0; clear h0
  obtain ⟨x79, S80, e81, h82⟩ := qc_el h78; clear h78
  refine xv_callV (pc := 174) (st := []) (as := [.ref l1]) (v := (some (.int x79))) (S' := S80) ok_X9_takePart (e_X9_takePart e81) (isb_el g77) (by decide) rfl (Nat.le_of_ble_eq_true rfl) rfl gw_615 dX9_take_174 ?_
  exact ev_ireturn (pc := 177) rfl rfl (by cases h82; rfl) dX9_take_177
def f_X9_take (F : Nat) (S : gk_S) (a : Nat) (p0 : Nat) : Option (Int32 × gk_S) := qk (isb S a 7) <| qv (gI S 707 a) fun x3 => if x3 = 1 then (qc (f_X9_isWord F S a 1) fun x7 S8 => if x7 = (0 : Int32) then (qk (isb S8 a 7) <| qc (f_X9_takeRule F S8 a p0) fun x15 S16 => some (x15, S16)) else qk (isb S8 a 7) <| qc (f_X9_go F S8 a 2) fun x21 S22 => some (x21, S22)) else if x3 = 2 then (qc (f_X9_takePolicy F S a p0) fun x26 S27 => some (x26, S27)) else if x3 = 3 then (qv (gI S 703 a) fun x31 => if x31 = (59 : Int32) then (qc (f_X9_go F S a 4) fun x36 S37 => some (x36, S37)) else some (2, S)) else if x3 = 4 then (qc (f_X9_takeRule F S a p0) fun x41 S42 => some (x41, S42)) else if x3 = 5 then (qc (f_X9_takePart F S a p0) fun x46 S47 => some (x46, S47)) else if x3 = 6 then (qk (isb S p0 4) <| qv (gI S 401 p0) fun x53 => qc (f_X6_at F S p0 x53) fun x56 S57 => qk (isb S57 a 7) <| qc (f_X9_takeValue F S57 a x56) fun x62 S63 => some (x62, S63)) else if x3 = 7 then (qv (gI S 703 a) fun x67 => if x67 = (45 : Int32) then (qc (f_X9_go F S a 8) fun x95 S96 => some (x95, S96)) else qv (gI S 703 a) fun x72 => if x72 = (47 : Int32) then (qc (f_X9_isAddressPart F S a) fun x83 S84 => if x83 = (0 : Int32) then (f_X9_take_172 F a p0 S84) else qk (isb S84 a 7) <| qc (f_X9_go F S84 a 9) fun x91 S92 => some (x91, S92)) else f_X9_take_172 F a p0 S) else if x3 = 8 then (qk (isb S p0 4) <| qv (gI S 401 p0) fun x102 => qc (f_X6_at F S p0 x102) fun x105 S106 => qk (isb S106 a 7) <| qc (f_X9_takeLastValue F S106 a x105) fun x111 S112 => some (x111, S112)) else if x3 = 9 then (qk (isb S p0 4) <| qv (gI S 401 p0) fun x118 => qc (f_X6_at F S p0 x118) fun x121 S122 => qk (isb S122 a 7) <| qc (f_X9_takeBits F S122 a x121) fun x127 S128 => some (x127, S128)) else if x3 = 10 then (qk (isb S p0 4) <| qv (gI S 401 p0) fun x134 => qc (f_X6_at F S p0 x134) fun x137 S138 => qk (isb S138 a 7) <| qc (f_X9_takeState F S138 a x137) fun x143 S144 => some (x143, S144)) else if x3 = 11 then (qv (gI S 703 a) fun x148 => if x148 = (44 : Int32) then (qc (f_X9_go F S a 10) fun x157 S158 => some (x157, S158)) else qc (f_X9_takePart F S a p0) fun x153 S154 => some (x153, S154)) else qc (f_X9_takePart F S a p0) fun x161 S162 => some (x161, S162)
theorem e_X9_take {X : gk_X} {F : Nat} {S : gk_S} {a : Nat} {p0 : Nat} {r : (Int32 × gk_S)} (h0 : f_X9_take F S a p0 = some r) : EvM X m_X9_take 8 0 0 [.ref a, .ref p0] S (qRI r) := by
  unfold f_X9_take at h0
  refine ev_method (by decide +kernel) rfl rfl (Nat.le_of_ble_eq_true rfl) ?_
  show EvW X m_X9_take 8 0 0 0 [some (.ref a), some (.ref p0)] [] S _
  refine ev_aload_n (pc := 0) (i := 0) rfl rfl rfl dX9_take_0 ?_
  obtain ⟨g1, h2⟩ := qk_el h0; clear h0
  obtain ⟨x3, e4, h5⟩ := qv_el h2; clear h2
  refine xv_getIv (pc := 1) fn_707 (isb_el g1) e4 gw_127 dX9_take_1 ?_
  by_cases c6 : x3 = 1
  · refine ev_tableIn (pc := 4) (off := 60) (tgt := 64) (by rw [c6]; decide) (by rw [c6]; decide) (by rw [c6]; rfl) (by decide) dX9_take_4 ?_
    replace h5 := qi_t h5 c6
    refine ev_aload_n (pc := 64) (i := 0) rfl rfl rfl dX9_take_64 ?_
    refine ev_ldcS (pc := 65) (i := 1) (by decide) rfl rfl dX9_take_65 ?_
    obtain ⟨x7, S8, e9, h10⟩ := qc_el h5; clear h5
    refine xv_callV (pc := 67) (st := []) (as := [.retAddr (10 + 1)]) (v := (some (.int x7))) (S' := S8) ok_X9_isWord (e_X9_isWord e9) (isb_el g1) (by decide) rfl (Nat.le_of_ble_eq_true rfl) rfl gw_503 dX9_take_67 ?_
    refine ev_if_eq (pc := 70) (tgt := 81) (by decide) dX9_take_70 (fun c11 => ?_) (fun c11 => ?_)
    · replace h10 := qi_t h10 c11
      refine ev_aload_n (pc := 81) (i := 0) rfl rfl rfl dX9_take_81 ?_
      refine ev_aload_n (pc := 82) (i := 1) rfl rfl rfl dX9_take_82 ?_
      obtain ⟨g13, h14⟩ := qk_el h10; clear h10
      obtain ⟨x15, S16, e17, h18⟩ := qc_el h14; clear h14
      refine xv_callV (pc := 83) (st := []) (as := [.ref p0]) (v := (some (.int x15))) (S' := S16) ok_X9_takeRule (e_X9_takeRule e17) (isb_el g13) (by decide) rfl (Nat.le_of_ble_eq_true rfl) rfl gw_559 dX9_take_83 ?_
      exact ev_ireturn (pc := 86) rfl rfl (by cases h18; rfl) dX9_take_86
    · replace h10 := qi_f h10 c11
      refine ev_aload_n (pc := 73) (i := 0) rfl rfl rfl dX9_take_73 ?_
      refine ev_iconst (pc := 74) (v := 2) (by decide) dX9_take_74 ?_
      obtain ⟨g19, h20⟩ := qk_el h10; clear h10
      obtain ⟨x21, S22, e23, h24⟩ := qc_el h20; clear h20
      refine xv_callV (pc := 75) (st := []) (as := [.int 2]) (v := (some (.int x21))) (S' := S22) ok_X9_go (e_X9_go e23) (isb_el g19) (by decide) rfl (Nat.le_of_ble_eq_true rfl) rfl gw_555 dX9_take_75 ?_
      refine ev_goto (pc := 78) (tgt := 86) (by decide) dX9_take_78 ?_
      exact ev_ireturn (pc := 86) rfl rfl (by cases h24; rfl) dX9_take_86
  replace h5 := qi_f h5 c6
  by_cases c25 : x3 = 2
  · refine ev_tableIn (pc := 4) (off := 83) (tgt := 87) (by rw [c25]; decide) (by rw [c25]; decide) (by rw [c25]; rfl) (by decide) dX9_take_4 ?_
    replace h5 := qi_t h5 c25
    refine ev_aload_n (pc := 87) (i := 0) rfl rfl rfl dX9_take_87 ?_
    refine ev_aload_n (pc := 88) (i := 1) rfl rfl rfl dX9_take_88 ?_
    obtain ⟨x26, S27, e28, h29⟩ := qc_el h5; clear h5
    refine xv_callV (pc := 89) (st := []) (as := [.ref p0]) (v := (some (.int x26))) (S' := S27) ok_X9_takePolicy (e_X9_takePolicy e28) (isb_el g1) (by decide) rfl (Nat.le_of_ble_eq_true rfl) rfl gw_583 dX9_take_89 ?_
    exact ev_ireturn (pc := 92) rfl rfl (by cases h29; rfl) dX9_take_92
  replace h5 := qi_f h5 c25
  by_cases c30 : x3 = 3
  · refine ev_tableIn (pc := 4) (off := 89) (tgt := 93) (by rw [c30]; decide) (by rw [c30]; decide) (by rw [c30]; rfl) (by decide) dX9_take_4 ?_
    replace h5 := qi_t h5 c30
    refine ev_aload_n (pc := 93) (i := 0) rfl rfl rfl dX9_take_93 ?_
    obtain ⟨x31, e32, h33⟩ := qv_el h5; clear h5
    refine xv_getIv (pc := 94) fn_703 (isb_el g1) e32 gw_123 dX9_take_94 ?_
    refine ev_bipush (pc := 97) (v := 59) (by decide) dX9_take_97 ?_
    refine ev_ic_ne (pc := 99) (tgt := 110) (by decide) dX9_take_99 (fun c34 => ?_) (fun c34 => ?_)
    · replace h33 := qi_f h33 c34
      refine ev_iconst (pc := 110) (v := 2) (by decide) dX9_take_110 ?_
      exact ev_ireturn (pc := 111) rfl rfl (by cases h33; rfl) dX9_take_111
    · replace h33 := qi_t h33 c34
      refine ev_aload_n (pc := 102) (i := 0) rfl rfl rfl dX9_take_102 ?_
      refine ev_iconst (pc := 103) (v := 4) (by decide) dX9_take_103 ?_
      obtain ⟨x36, S37, e38, h39⟩ := qc_el h33; clear h33
      refine xv_callV (pc := 104) (st := []) (as := [.int 4]) (v := (some (.int x36))) (S' := S37) ok_X9_go (e_X9_go e38) (isb_el g1) (by decide) rfl (Nat.le_of_ble_eq_true rfl) rfl gw_555 dX9_take_104 ?_
      refine ev_goto (pc := 107) (tgt := 111) (by decide) dX9_take_107 ?_
      exact ev_ireturn (pc := 111) rfl rfl (by cases h39; rfl) dX9_take_111
  replace h5 := qi_f h5 c30
  by_cases c40 : x3 = 4
  · refine ev_tableIn (pc := 4) (off := 108) (tgt := 112) (by rw [c40]; decide) (by rw [c40]; decide) (by rw [c40]; rfl) (by decide) dX9_take_4 ?_
    replace h5 := qi_t h5 c40
    refine ev_aload_n (pc := 112) (i := 0) rfl rfl rfl dX9_take_112 ?_
    refine ev_aload_n (pc := 113) (i := 1) rfl rfl rfl dX9_take_113 ?_
    obtain ⟨x41, S42, e43, h44⟩ := qc_el h5; clear h5
    refine xv_callV (pc := 114) (st := []) (as := [.ref p0]) (v := (some (.int x41))) (S' := S42) ok_X9_takeRule (e_X9_takeRule e43) (isb_el g1) (by decide) rfl (Nat.le_of_ble_eq_true rfl) rfl gw_559 dX9_take_114 ?_
    exact ev_ireturn (pc := 117) rfl rfl (by cases h44; rfl) dX9_take_117
  replace h5 := qi_f h5 c40
  by_cases c45 : x3 = 5
  · refine ev_tableIn (pc := 4) (off := 237) (tgt := 241) (by rw [c45]; decide) (by rw [c45]; decide) (by rw [c45]; rfl) (by decide) dX9_take_4 ?_
    replace h5 := qi_t h5 c45
    refine ev_aload_n (pc := 241) (i := 0) rfl rfl rfl dX9_take_241 ?_
    refine ev_aload_n (pc := 242) (i := 1) rfl rfl rfl dX9_take_242 ?_
    obtain ⟨x46, S47, e48, h49⟩ := qc_el h5; clear h5
    refine xv_callV (pc := 243) (st := []) (as := [.ref p0]) (v := (some (.int x46))) (S' := S47) ok_X9_takePart (e_X9_takePart e48) (isb_el g1) (by decide) rfl (Nat.le_of_ble_eq_true rfl) rfl gw_615 dX9_take_243 ?_
    exact ev_ireturn (pc := 246) rfl rfl (by cases h49; rfl) dX9_take_246
  replace h5 := qi_f h5 c45
  by_cases c50 : x3 = 6
  · refine ev_tableIn (pc := 4) (off := 114) (tgt := 118) (by rw [c50]; decide) (by rw [c50]; decide) (by rw [c50]; rfl) (by decide) dX9_take_4 ?_
    replace h5 := qi_t h5 c50
    refine ev_aload_n (pc := 118) (i := 0) rfl rfl rfl dX9_take_118 ?_
    refine ev_aload_n (pc := 119) (i := 1) rfl rfl rfl dX9_take_119 ?_
    refine ev_aload_n (pc := 120) (i := 1) rfl rfl rfl dX9_take_120 ?_
    obtain ⟨g51, h52⟩ := qk_el h5; clear h5
    obtain ⟨x53, e54, h55⟩ := qv_el h52; clear h52
    refine xv_getIv (pc := 121) fn_401 (isb_el g51) e54 gw_94 dX9_take_121 ?_
    obtain ⟨x56, S57, e58, h59⟩ := qc_el h55; clear h55
    refine xv_callV (pc := 124) (st := [.ref a]) (as := [.int x53]) (v := (some (.ref x56))) (S' := S57) ok_X6_at (e_X6_at e58) (isb_el g51) (by decide) rfl (Nat.le_of_ble_eq_true rfl) rfl gw_573 dX9_take_124 ?_
    obtain ⟨g60, h61⟩ := qk_el h59; clear h59
    obtain ⟨x62, S63, e64, h65⟩ := qc_el h61; clear h61
    refine xv_callV (pc := 127) (st := []) (as := [.ref x56]) (v := (some (.int x62))) (S' := S63) ok_X9_takeValue (e_X9_takeValue e64) (isb_el g60) (by decide) rfl (Nat.le_of_ble_eq_true rfl) rfl gw_587 dX9_take_127 ?_
    exact ev_ireturn (pc := 130) rfl rfl (by cases h65; rfl) dX9_take_130
  replace h5 := qi_f h5 c50
  by_cases c66 : x3 = 7
  · refine ev_tableIn (pc := 4) (off := 127) (tgt := 131) (by rw [c66]; decide) (by rw [c66]; decide) (by rw [c66]; rfl) (by decide) dX9_take_4 ?_
    replace h5 := qi_t h5 c66
    refine ev_aload_n (pc := 131) (i := 0) rfl rfl rfl dX9_take_131 ?_
    obtain ⟨x67, e68, h69⟩ := qv_el h5; clear h5
    refine xv_getIv (pc := 132) fn_703 (isb_el g1) e68 gw_123 dX9_take_132 ?_
    refine ev_bipush (pc := 135) (v := 45) (by decide) dX9_take_135 ?_
    refine ev_ic_ne (pc := 137) (tgt := 147) (by decide) dX9_take_137 (fun c70 => ?_) (fun c70 => ?_)
    · replace h69 := qi_f h69 c70
      refine ev_aload_n (pc := 147) (i := 0) rfl rfl rfl dX9_take_147 ?_
      obtain ⟨x72, e73, h74⟩ := qv_el h69; clear h69
      refine xv_getIv (pc := 148) fn_703 (isb_el g1) e73 gw_123 dX9_take_148 ?_
      refine ev_bipush (pc := 151) (v := 47) (by decide) dX9_take_151 ?_
      refine ev_ic_ne (pc := 153) (tgt := 172) (by decide) dX9_take_153 (fun c75 => ?_) (fun c75 => ?_)
      · replace h74 := qi_f h74 c75
        exact ev_weak (qL_s (qL_s qL_nil)) (e_X9_take_172 h74)
      · replace h74 := qi_t h74 c75
        refine ev_aload_n (pc := 156) (i := 0) rfl rfl rfl dX9_take_156 ?_
        obtain ⟨x83, S84, e85, h86⟩ := qc_el h74; clear h74
        refine xv_callV (pc := 157) (st := []) (as := []) (v := (some (.int x83))) (S' := S84) ok_X9_isAddressPart (e_X9_isAddressPart e85) (isb_el g1) (by decide) rfl (Nat.le_of_ble_eq_true rfl) rfl gw_606 dX9_take_157 ?_
        refine ev_if_eq (pc := 160) (tgt := 172) (by decide) dX9_take_160 (fun c87 => ?_) (fun c87 => ?_)
        · replace h86 := qi_t h86 c87
          exact ev_weak (qL_s (qL_s qL_nil)) (e_X9_take_172 h86)
        · replace h86 := qi_f h86 c87
          refine ev_aload_n (pc := 163) (i := 0) rfl rfl rfl dX9_take_163 ?_
          refine ev_bipush (pc := 164) (v := 9) (by decide) dX9_take_164 ?_
          obtain ⟨g89, h90⟩ := qk_el h86; clear h86
          obtain ⟨x91, S92, e93, h94⟩ := qc_el h90; clear h90
          refine xv_callV (pc := 166) (st := []) (as := [.int 9]) (v := (some (.int x91))) (S' := S92) ok_X9_go (e_X9_go e93) (isb_el g89) (by decide) rfl (Nat.le_of_ble_eq_true rfl) rfl gw_555 dX9_take_166 ?_
          refine ev_goto (pc := 169) (tgt := 177) (by decide) dX9_take_169 ?_
          exact ev_ireturn (pc := 177) rfl rfl (by cases h94; rfl) dX9_take_177
    · replace h69 := qi_t h69 c70
      refine ev_aload_n (pc := 140) (i := 0) rfl rfl rfl dX9_take_140 ?_
      refine ev_bipush (pc := 141) (v := 8) (by decide) dX9_take_141 ?_
      obtain ⟨x95, S96, e97, h98⟩ := qc_el h69; clear h69
      refine xv_callV (pc := 143) (st := []) (as := [.int 8]) (v := (some (.int x95))) (S' := S96) ok_X9_go (e_X9_go e97) (isb_el g1) (by decide) rfl (Nat.le_of_ble_eq_true rfl) rfl gw_555 dX9_take_143 ?_
      exact ev_ireturn (pc := 146) rfl rfl (by cases h98; rfl) dX9_take_146
  replace h5 := qi_f h5 c66
  by_cases c99 : x3 = 8
  · refine ev_tableIn (pc := 4) (off := 174) (tgt := 178) (by rw [c99]; decide) (by rw [c99]; decide) (by rw [c99]; rfl) (by decide) dX9_take_4 ?_
    replace h5 := qi_t h5 c99
    refine ev_aload_n (pc := 178) (i := 0) rfl rfl rfl dX9_take_178 ?_
    refine ev_aload_n (pc := 179) (i := 1) rfl rfl rfl dX9_take_179 ?_
    refine ev_aload_n (pc := 180) (i := 1) rfl rfl rfl dX9_take_180 ?_
    obtain ⟨g100, h101⟩ := qk_el h5; clear h5
    obtain ⟨x102, e103, h104⟩ := qv_el h101; clear h101
    refine xv_getIv (pc := 181) fn_401 (isb_el g100) e103 gw_94 dX9_take_181 ?_
    obtain ⟨x105, S106, e107, h108⟩ := qc_el h104; clear h104
    refine xv_callV (pc := 184) (st := [.ref a]) (as := [.int x102]) (v := (some (.ref x105))) (S' := S106) ok_X6_at (e_X6_at e107) (isb_el g100) (by decide) rfl (Nat.le_of_ble_eq_true rfl) rfl gw_573 dX9_take_184 ?_
    obtain ⟨g109, h110⟩ := qk_el h108; clear h108
    obtain ⟨x111, S112, e113, h114⟩ := qc_el h110; clear h110
    refine xv_callV (pc := 187) (st := []) (as := [.ref x105]) (v := (some (.int x111))) (S' := S112) ok_X9_takeLastValue (e_X9_takeLastValue e113) (isb_el g109) (by decide) rfl (Nat.le_of_ble_eq_true rfl) rfl gw_633 dX9_take_187 ?_
    exact ev_ireturn (pc := 190) rfl rfl (by cases h114; rfl) dX9_take_190
  replace h5 := qi_f h5 c99
  by_cases c115 : x3 = 9
  · refine ev_tableIn (pc := 4) (off := 187) (tgt := 191) (by rw [c115]; decide) (by rw [c115]; decide) (by rw [c115]; rfl) (by decide) dX9_take_4 ?_
    replace h5 := qi_t h5 c115
    refine ev_aload_n (pc := 191) (i := 0) rfl rfl rfl dX9_take_191 ?_
    refine ev_aload_n (pc := 192) (i := 1) rfl rfl rfl dX9_take_192 ?_
    refine ev_aload_n (pc := 193) (i := 1) rfl rfl rfl dX9_take_193 ?_
    obtain ⟨g116, h117⟩ := qk_el h5; clear h5
    obtain ⟨x118, e119, h120⟩ := qv_el h117; clear h117
    refine xv_getIv (pc := 194) fn_401 (isb_el g116) e119 gw_94 dX9_take_194 ?_
    obtain ⟨x121, S122, e123, h124⟩ := qc_el h120; clear h120
    refine xv_callV (pc := 197) (st := [.ref a]) (as := [.int x118]) (v := (some (.ref x121))) (S' := S122) ok_X6_at (e_X6_at e123) (isb_el g116) (by decide) rfl (Nat.le_of_ble_eq_true rfl) rfl gw_573 dX9_take_197 ?_
    obtain ⟨g125, h126⟩ := qk_el h124; clear h124
    obtain ⟨x127, S128, e129, h130⟩ := qc_el h126; clear h126
    refine xv_callV (pc := 200) (st := []) (as := [.ref x121]) (v := (some (.int x127))) (S' := S128) ok_X9_takeBits (e_X9_takeBits e129) (isb_el g125) (by decide) rfl (Nat.le_of_ble_eq_true rfl) rfl gw_637 dX9_take_200 ?_
    exact ev_ireturn (pc := 203) rfl rfl (by cases h130; rfl) dX9_take_203
  replace h5 := qi_f h5 c115
  by_cases c131 : x3 = 10
  · refine ev_tableIn (pc := 4) (off := 200) (tgt := 204) (by rw [c131]; decide) (by rw [c131]; decide) (by rw [c131]; rfl) (by decide) dX9_take_4 ?_
    replace h5 := qi_t h5 c131
    refine ev_aload_n (pc := 204) (i := 0) rfl rfl rfl dX9_take_204 ?_
    refine ev_aload_n (pc := 205) (i := 1) rfl rfl rfl dX9_take_205 ?_
    refine ev_aload_n (pc := 206) (i := 1) rfl rfl rfl dX9_take_206 ?_
    obtain ⟨g132, h133⟩ := qk_el h5; clear h5
    obtain ⟨x134, e135, h136⟩ := qv_el h133; clear h133
    refine xv_getIv (pc := 207) fn_401 (isb_el g132) e135 gw_94 dX9_take_207 ?_
    obtain ⟨x137, S138, e139, h140⟩ := qc_el h136; clear h136
    refine xv_callV (pc := 210) (st := [.ref a]) (as := [.int x134]) (v := (some (.ref x137))) (S' := S138) ok_X6_at (e_X6_at e139) (isb_el g132) (by decide) rfl (Nat.le_of_ble_eq_true rfl) rfl gw_573 dX9_take_210 ?_
    obtain ⟨g141, h142⟩ := qk_el h140; clear h140
    obtain ⟨x143, S144, e145, h146⟩ := qc_el h142; clear h142
    refine xv_callV (pc := 213) (st := []) (as := [.ref x137]) (v := (some (.int x143))) (S' := S144) ok_X9_takeState (e_X9_takeState e145) (isb_el g141) (by decide) rfl (Nat.le_of_ble_eq_true rfl) rfl gw_643 dX9_take_213 ?_
    exact ev_ireturn (pc := 216) rfl rfl (by cases h146; rfl) dX9_take_216
  replace h5 := qi_f h5 c131
  by_cases c147 : x3 = 11
  · refine ev_tableIn (pc := 4) (off := 213) (tgt := 217) (by rw [c147]; decide) (by rw [c147]; decide) (by rw [c147]; rfl) (by decide) dX9_take_4 ?_
    replace h5 := qi_t h5 c147
    refine ev_aload_n (pc := 217) (i := 0) rfl rfl rfl dX9_take_217 ?_
    obtain ⟨x148, e149, h150⟩ := qv_el h5; clear h5
    refine xv_getIv (pc := 218) fn_703 (isb_el g1) e149 gw_123 dX9_take_218 ?_
    refine ev_bipush (pc := 221) (v := 44) (by decide) dX9_take_221 ?_
    refine ev_ic_ne (pc := 223) (tgt := 235) (by decide) dX9_take_223 (fun c151 => ?_) (fun c151 => ?_)
    · replace h150 := qi_f h150 c151
      refine ev_aload_n (pc := 235) (i := 0) rfl rfl rfl dX9_take_235 ?_
      refine ev_aload_n (pc := 236) (i := 1) rfl rfl rfl dX9_take_236 ?_
      obtain ⟨x153, S154, e155, h156⟩ := qc_el h150; clear h150
      refine xv_callV (pc := 237) (st := []) (as := [.ref p0]) (v := (some (.int x153))) (S' := S154) ok_X9_takePart (e_X9_takePart e155) (isb_el g1) (by decide) rfl (Nat.le_of_ble_eq_true rfl) rfl gw_615 dX9_take_237 ?_
      exact ev_ireturn (pc := 240) rfl rfl (by cases h156; rfl) dX9_take_240
    · replace h150 := qi_t h150 c151
      refine ev_aload_n (pc := 226) (i := 0) rfl rfl rfl dX9_take_226 ?_
      refine ev_bipush (pc := 227) (v := 10) (by decide) dX9_take_227 ?_
      obtain ⟨x157, S158, e159, h160⟩ := qc_el h150; clear h150
      refine xv_callV (pc := 229) (st := []) (as := [.int 10]) (v := (some (.int x157))) (S' := S158) ok_X9_go (e_X9_go e159) (isb_el g1) (by decide) rfl (Nat.le_of_ble_eq_true rfl) rfl gw_555 dX9_take_229 ?_
      refine ev_goto (pc := 232) (tgt := 240) (by decide) dX9_take_232 ?_
      exact ev_ireturn (pc := 240) rfl rfl (by cases h160; rfl) dX9_take_240
  replace h5 := qi_f h5 c147
  refine ev_tableOut (pc := 4) (tgt := 241) (by have z1 := ti_ne c6 (n := 1) rfl; have z2 := ti_ne c25 (n := 2) rfl; have z3 := ti_ne c30 (n := 3) rfl; have z4 := ti_ne c40 (n := 4) rfl; have z5 := ti_ne c45 (n := 5) rfl; have z6 := ti_ne c50 (n := 6) rfl; have z7 := ti_ne c66 (n := 7) rfl; have z8 := ti_ne c99 (n := 8) rfl; have z9 := ti_ne c115 (n := 9) rfl; have z10 := ti_ne c131 (n := 10) rfl; have z11 := ti_ne c147 (n := 11) rfl; omega) (by decide) dX9_take_4 ?_
  refine ev_aload_n (pc := 241) (i := 0) rfl rfl rfl dX9_take_241 ?_
  refine ev_aload_n (pc := 242) (i := 1) rfl rfl rfl dX9_take_242 ?_
  obtain ⟨x161, S162, e163, h164⟩ := qc_el h5; clear h5
  refine xv_callV (pc := 243) (st := []) (as := [.ref p0]) (v := (some (.int x161))) (S' := S162) ok_X9_takePart (e_X9_takePart e163) (isb_el g1) (by decide) rfl (Nat.le_of_ble_eq_true rfl) rfl gw_615 dX9_take_243 ?_
  exact ev_ireturn (pc := 246) rfl rfl (by cases h164; rfl) dX9_take_246
theorem dX9_read_0 : decode cX9_read 0 = .ok (.aload_n 0, 1) := by decide +kernel
theorem dX9_read_1 : decode cX9_read 1 = .ok (.iconst 0, 1) := by decide +kernel
theorem dX9_read_2 : decode cX9_read 2 = .ok (.putfield 15, 3) := by decide +kernel
theorem dX9_read_5 : decode cX9_read 5 = .ok (.aload_n 0, 1) := by decide +kernel
theorem dX9_read_6 : decode cX9_read 6 = .ok (.iconst 0, 1) := by decide +kernel
theorem dX9_read_7 : decode cX9_read 7 = .ok (.putfield 28, 3) := by decide +kernel
theorem dX9_read_10 : decode cX9_read 10 = .ok (.aload_n 0, 1) := by decide +kernel
theorem dX9_read_11 : decode cX9_read 11 = .ok (.iconst 1, 1) := by decide +kernel
theorem dX9_read_12 : decode cX9_read 12 = .ok (.putfield 35, 3) := by decide +kernel
theorem dX9_read_15 : decode cX9_read 15 = .ok (.aload_n 1, 1) := by decide +kernel
theorem dX9_read_16 : decode cX9_read 16 = .ok (.invokevirtual 47, 3) := by decide +kernel
theorem dX9_read_19 : decode cX9_read 19 = .ok (.iconst 0, 1) := by decide +kernel
theorem dX9_read_20 : decode cX9_read 20 = .ok (.istore_n 2, 1) := by decide +kernel
theorem dX9_read_21 : decode cX9_read 21 = .ok (.iload_n 2, 1) := by decide +kernel
theorem dX9_read_22 : decode cX9_read 22 = .ok (.sipush 2100, 3) := by decide +kernel
theorem dX9_read_25 : decode cX9_read 25 = .ok (.if_icmp .gt 74, 3) := by decide +kernel
theorem dX9_read_28 : decode cX9_read 28 = .ok (.aload_n 0, 1) := by decide +kernel
theorem dX9_read_29 : decode cX9_read 29 = .ok (.getfield 35, 3) := by decide +kernel
theorem dX9_read_32 : decode cX9_read 32 = .ok (.ifCond .eq 67, 3) := by decide +kernel
theorem dX9_read_35 : decode cX9_read 35 = .ok (.aload_n 0, 1) := by decide +kernel
theorem dX9_read_36 : decode cX9_read 36 = .ok (.invokevirtual 52, 3) := by decide +kernel
theorem dX9_read_39 : decode cX9_read 39 = .ok (.aload_n 0, 1) := by decide +kernel
theorem dX9_read_40 : decode cX9_read 40 = .ok (.aload_n 0, 1) := by decide +kernel
theorem dX9_read_41 : decode cX9_read 41 = .ok (.getfield 22, 3) := by decide +kernel
theorem dX9_read_44 : decode cX9_read 44 = .ok (.sipush 260, 3) := by decide +kernel
theorem dX9_read_47 : decode cX9_read 47 = .ok (.if_icmp .ne 7, 3) := by decide +kernel
theorem dX9_read_50 : decode cX9_read 50 = .ok (.iconst 1, 1) := by decide +kernel
theorem dX9_read_51 : decode cX9_read 51 = .ok (.goto 22, 3) := by decide +kernel
theorem dX9_read_54 : decode cX9_read 54 = .ok (.aload_n 0, 1) := by decide +kernel
theorem dX9_read_55 : decode cX9_read 55 = .ok (.getfield 22, 3) := by decide +kernel
theorem dX9_read_58 : decode cX9_read 58 = .ok (.sipush 261, 3) := by decide +kernel
theorem dX9_read_61 : decode cX9_read 61 = .ok (.if_icmp .ne 7, 3) := by decide +kernel
theorem dX9_read_64 : decode cX9_read 64 = .ok (.iconst 4, 1) := by decide +kernel
theorem dX9_read_65 : decode cX9_read 65 = .ok (.goto 8, 3) := by decide +kernel
theorem dX9_read_68 : decode cX9_read 68 = .ok (.aload_n 0, 1) := by decide +kernel
theorem dX9_read_69 : decode cX9_read 69 = .ok (.aload_n 1, 1) := by decide +kernel
theorem dX9_read_70 : decode cX9_read 70 = .ok (.invokevirtual 55, 3) := by decide +kernel
theorem dX9_read_73 : decode cX9_read 73 = .ok (.putfield 15, 3) := by decide +kernel
theorem dX9_read_76 : decode cX9_read 76 = .ok (.aload_n 0, 1) := by decide +kernel
theorem dX9_read_77 : decode cX9_read 77 = .ok (.getfield 15, 3) := by decide +kernel
theorem dX9_read_80 : decode cX9_read 80 = .ok (.ifCond .eq 13, 3) := by decide +kernel
theorem dX9_read_83 : decode cX9_read 83 = .ok (.aload_n 0, 1) := by decide +kernel
theorem dX9_read_84 : decode cX9_read 84 = .ok (.aload_n 0, 1) := by decide +kernel
theorem dX9_read_85 : decode cX9_read 85 = .ok (.getfield 25, 3) := by decide +kernel
theorem dX9_read_88 : decode cX9_read 88 = .ok (.putfield 19, 3) := by decide +kernel
theorem dX9_read_91 : decode cX9_read 91 = .ok (.iconst 0, 1) := by decide +kernel
theorem dX9_read_92 : decode cX9_read 92 = .ok (.ireturn, 1) := by decide +kernel
theorem dX9_read_93 : decode cX9_read 93 = .ok (.iinc 2 1, 3) := by decide +kernel
theorem dX9_read_96 : decode cX9_read 96 = .ok (.goto (-75), 3) := by decide +kernel
theorem dX9_read_99 : decode cX9_read 99 = .ok (.iconst 1, 1) := by decide +kernel
theorem dX9_read_100 : decode cX9_read 100 = .ok (.ireturn, 1) := by decide +kernel
def f_X9_read_73 (F : Nat) (k21 : Nat → Nat → Int32 → gk_S → Option (Int32 × gk_S)) (l0 : Nat) (l1 : Nat) (l2 : Int32) (s0 : Int32) (s1 : Nat) (S : gk_S) : Option (Int32 × gk_S) := qk (isb S s1 7) <| qv (sI S 701 s1 s0) fun S49 => qk (isb S49 l0 7) <| qv (gI S49 701 l0) fun x54 => if x54 = (0 : Int32) then (k21 l0 l1 (l2 + 1) S49) else qv (gI S49 704 l0) fun x59 => qv (sI S49 702 l0 x59) fun S62 => some (0, S62)
theorem e_X9_read_73 {X : gk_X} {F : Nat} {k21 : Nat → Nat → Int32 → gk_S → Option (Int32 × gk_S)} (hk21 : ∀ (l0 : Nat) (l1 : Nat) (l2 : Int32) (S : gk_S) (r : (Int32 × gk_S)), k21 l0 l1 l2 S = some r → EvW X m_X9_read 9 0 0 21 [some (.ref l0), some (.ref l1), some (.int l2)] [] S (qRI r)) {l0 : Nat} {l1 : Nat} {l2 : Int32} {s0 : Int32} {s1 : Nat} {S : gk_S} {r : (Int32 × gk_S)} (h0 : f_X9_read_73 F k21 l0 l1 l2 s0 s1 S = some r) : EvW X m_X9_read 9 0 0 73 [some (.ref l0), some (.ref l1), some (.int l2)] [.int s0, .ref s1] S (qRI r) := by
  unfold f_X9_read_73 at h0
  obtain ⟨g47, h48⟩ := qk_el h0; clear h0
  obtain ⟨S49, e50, h51⟩ := qv_el h48; clear h48
  refine yv_putI (pc := 73) fn_701 ⟨rfl, rfl⟩ (isb_el g47) e50 gw_119 dX9_read_73 ?_
  refine ev_aload_n (pc := 76) (i := 0) rfl rfl rfl dX9_read_76 ?_
  obtain ⟨g52, h53⟩ := qk_el h51; clear h51
  obtain ⟨x54, e55, h56⟩ := qv_el h53; clear h53
  refine xv_getIv (pc := 77) fn_701 (isb_el g52) e55 gw_119 dX9_read_77 ?_
  refine ev_if_eq (pc := 80) (tgt := 93) (by decide) dX9_read_80 (fun c57 => ?_) (fun c57 => ?_)
  · replace h56 := qi_t h56 c57
    refine ev_iinc (pc := 93) (L' := [some (.ref l0), some (.ref l1), some (.int (l2 + 1))]) (i := 2) (v := (l2 + 1)) rfl rfl (by decide) rfl rfl dX9_read_93 ?_
    refine ev_goto (pc := 96) (tgt := 21) (by decide) dX9_read_96 ?_
    exact ev_weak (qL_s (qL_s (qL_s qL_nil))) (hk21 _ _ _ _ _ h56)
  · replace h56 := qi_f h56 c57
    refine ev_aload_n (pc := 83) (i := 0) rfl rfl rfl dX9_read_83 ?_
    refine ev_aload_n (pc := 84) (i := 0) rfl rfl rfl dX9_read_84 ?_
    obtain ⟨x59, e60, h61⟩ := qv_el h56; clear h56
    refine xv_getIv (pc := 85) fn_704 (isb_el g52) e60 gw_124 dX9_read_85 ?_
    obtain ⟨S62, e63, h64⟩ := qv_el h61; clear h61
    refine yv_putI (pc := 88) fn_702 ⟨rfl, rfl⟩ (isb_el g52) e63 gw_121 dX9_read_88 ?_
    refine ev_iconst (pc := 91) (v := 0) (by decide) dX9_read_91 ?_
    exact ev_ireturn (pc := 92) rfl rfl (by cases h64; rfl) dX9_read_92
def f_X9_read_21 (F : Nat) : Nat → Nat → Nat → Int32 → gk_S → Option (Int32 × gk_S)
  | 0, _, _, _, _ => none
  | n + 1, l0, l1, l2, S => if (2100 : Int32) < l2 then (some (1, S)) else qk (isb S l0 7) <| qv (gI S 707 l0) fun x22 => if x22 = (0 : Int32) then (some (1, S)) else qc (f_X9_step F S l0) fun x27 S28 => qk (isb S28 l0 7) <| qv (gI S28 703 l0) fun x33 => if x33 = (260 : Int32) then (f_X9_read_73 F (f_X9_read_21 F n) l0 l1 l2 1 l0 S28) else qv (gI S28 703 l0) fun x38 => if x38 = (261 : Int32) then (f_X9_read_73 F (f_X9_read_21 F n) l0 l1 l2 4 l0 S28) else qc (f_X9_take F S28 l0 l1) fun x43 S44 => f_X9_read_73 F (f_X9_read_21 F n) l0 l1 l2 x43 l0 S44
theorem e_X9_read_21 {X : gk_X} {F : Nat} : ∀ (n : Nat) (l0 : Nat) (l1 : Nat) (l2 : Int32) (S : gk_S) (r : (Int32 × gk_S)), f_X9_read_21 F n l0 l1 l2 S = some r → EvW X m_X9_read 9 0 0 21 [some (.ref l0), some (.ref l1), some (.int l2)] [] S (qRI r) := by
  intro n
  induction n with
  | zero => intro l0 l1 l2 S r h0; rw [f_X9_read_21] at h0; cases h0
  | succ n ih =>
    intro l0 l1 l2 S r h0; rw [f_X9_read_21] at h0
    refine ev_iload_n (pc := 21) (i := 2) rfl rfl dX9_read_21 ?_
    refine ev_sipush (pc := 22) (v := 2100) (by decide) dX9_read_22 ?_
    refine ev_ic_gt (pc := 25) (tgt := 99) (by decide) dX9_read_25 (fun c18 => ?_) (fun c18 => ?_)
    · replace h0 := qi_t h0 c18
      refine ev_iconst (pc := 99) (v := 1) (by decide) dX9_read_99 ?_
      exact ev_ireturn (pc := 100) rfl rfl (by cases h0; rfl) dX9_read_100
    · replace h0 := qi_f h0 c18
      refine ev_aload_n (pc := 28) (i := 0) rfl rfl rfl dX9_read_28 ?_
      obtain ⟨g20, h21⟩ := qk_el h0; clear h0
      obtain ⟨x22, e23, h24⟩ := qv_el h21; clear h21
      refine xv_getIv (pc := 29) fn_707 (isb_el g20) e23 gw_127 dX9_read_29 ?_
      refine ev_if_eq (pc := 32) (tgt := 99) (by decide) dX9_read_32 (fun c25 => ?_) (fun c25 => ?_)
      · replace h24 := qi_t h24 c25
        refine ev_iconst (pc := 99) (v := 1) (by decide) dX9_read_99 ?_
        exact ev_ireturn (pc := 100) rfl rfl (by cases h24; rfl) dX9_read_100
      · replace h24 := qi_f h24 c25
        refine ev_aload_n (pc := 35) (i := 0) rfl rfl rfl dX9_read_35 ?_
        obtain ⟨x27, S28, e29, h30⟩ := qc_el h24; clear h24
        refine xv_callV (pc := 36) (st := []) (as := []) (v := none) (S' := S28) ok_X9_step (e_X9_step e29) (isb_el g20) (by decide) rfl (Nat.le_of_ble_eq_true rfl) rfl gw_464 dX9_read_36 ?_
        refine ev_aload_n (pc := 39) (i := 0) rfl rfl rfl dX9_read_39 ?_
        refine ev_aload_n (pc := 40) (i := 0) rfl rfl rfl dX9_read_40 ?_
        obtain ⟨g31, h32⟩ := qk_el h30; clear h30
        obtain ⟨x33, e34, h35⟩ := qv_el h32; clear h32
        refine xv_getIv (pc := 41) fn_703 (isb_el g31) e34 gw_123 dX9_read_41 ?_
        refine ev_sipush (pc := 44) (v := 260) (by decide) dX9_read_44 ?_
        refine ev_ic_ne (pc := 47) (tgt := 54) (by decide) dX9_read_47 (fun c36 => ?_) (fun c36 => ?_)
        · replace h35 := qi_f h35 c36
          refine ev_aload_n (pc := 54) (i := 0) rfl rfl rfl dX9_read_54 ?_
          obtain ⟨x38, e39, h40⟩ := qv_el h35; clear h35
          refine xv_getIv (pc := 55) fn_703 (isb_el g31) e39 gw_123 dX9_read_55 ?_
          refine ev_sipush (pc := 58) (v := 261) (by decide) dX9_read_58 ?_
          refine ev_ic_ne (pc := 61) (tgt := 68) (by decide) dX9_read_61 (fun c41 => ?_) (fun c41 => ?_)
          · replace h40 := qi_f h40 c41
            refine ev_aload_n (pc := 68) (i := 0) rfl rfl rfl dX9_read_68 ?_
            refine ev_aload_n (pc := 69) (i := 1) rfl rfl rfl dX9_read_69 ?_
            obtain ⟨x43, S44, e45, h46⟩ := qc_el h40; clear h40
            refine xv_callV (pc := 70) (st := [.ref l0]) (as := [.ref l1]) (v := (some (.int x43))) (S' := S44) ok_X9_take (e_X9_take e45) (isb_el g31) (by decide) rfl (Nat.le_of_ble_eq_true rfl) rfl gw_498 dX9_read_70 ?_
            exact ev_weak (qL_s (qL_s (qL_s qL_nil))) (e_X9_read_73 ih h46)
          · replace h40 := qi_t h40 c41
            refine ev_iconst (pc := 64) (v := 4) (by decide) dX9_read_64 ?_
            refine ev_goto (pc := 65) (tgt := 73) (by decide) dX9_read_65 ?_
            exact ev_weak (qL_s (qL_s (qL_s qL_nil))) (e_X9_read_73 ih h40)
        · replace h35 := qi_t h35 c36
          refine ev_iconst (pc := 50) (v := 1) (by decide) dX9_read_50 ?_
          refine ev_goto (pc := 51) (tgt := 73) (by decide) dX9_read_51 ?_
          exact ev_weak (qL_s (qL_s (qL_s qL_nil))) (e_X9_read_73 ih h35)
def f_X9_read (F : Nat) (S : gk_S) (a : Nat) (p0 : Nat) : Option (Int32 × gk_S) := qk (isb S a 7) <| qv (sI S 701 a 0) fun S3 => qv (sI S3 705 a 0) fun S6 => qv (sI S6 707 a 1) fun S9 => qk (isb S9 p0 4) <| qc (f_X6_clear F S9 p0) fun x14 S15 => f_X9_read_21 F F a p0 0 S15
theorem e_X9_read {X : gk_X} {F : Nat} {S : gk_S} {a : Nat} {p0 : Nat} {r : (Int32 × gk_S)} (h0 : f_X9_read F S a p0 = some r) : EvM X m_X9_read 9 0 0 [.ref a, .ref p0] S (qRI r) := by
  unfold f_X9_read at h0
  refine ev_method (by decide +kernel) rfl rfl (Nat.le_of_ble_eq_true rfl) ?_
  show EvW X m_X9_read 9 0 0 0 [some (.ref a), some (.ref p0), none] [] S _
  refine ev_aload_n (pc := 0) (i := 0) rfl rfl rfl dX9_read_0 ?_
  refine ev_iconst (pc := 1) (v := 0) (by decide) dX9_read_1 ?_
  obtain ⟨g1, h2⟩ := qk_el h0; clear h0
  obtain ⟨S3, e4, h5⟩ := qv_el h2; clear h2
  refine yv_putI (pc := 2) fn_701 ⟨rfl, rfl⟩ (isb_el g1) e4 gw_119 dX9_read_2 ?_
  refine ev_aload_n (pc := 5) (i := 0) rfl rfl rfl dX9_read_5 ?_
  refine ev_iconst (pc := 6) (v := 0) (by decide) dX9_read_6 ?_
  obtain ⟨S6, e7, h8⟩ := qv_el h5; clear h5
  refine yv_putI (pc := 7) fn_705 ⟨rfl, rfl⟩ (is_sI (isb_el g1) e4) e7 gw_125 dX9_read_7 ?_
  refine ev_aload_n (pc := 10) (i := 0) rfl rfl rfl dX9_read_10 ?_
  refine ev_iconst (pc := 11) (v := 1) (by decide) dX9_read_11 ?_
  obtain ⟨S9, e10, h11⟩ := qv_el h8; clear h8
  refine yv_putI (pc := 12) fn_707 ⟨rfl, rfl⟩ (is_sI (is_sI (isb_el g1) e4) e7) e10 gw_127 dX9_read_12 ?_
  refine ev_aload_n (pc := 15) (i := 1) rfl rfl rfl dX9_read_15 ?_
  obtain ⟨g12, h13⟩ := qk_el h11; clear h11
  obtain ⟨x14, S15, e16, h17⟩ := qc_el h13; clear h13
  refine xv_callV (pc := 16) (st := []) (as := []) (v := none) (S' := S15) ok_X6_clear (e_X6_clear e16) (isb_el g12) (by decide) rfl (Nat.le_of_ble_eq_true rfl) rfl gw_460 dX9_read_16 ?_
  refine ev_iconst (pc := 19) (v := 0) (by decide) dX9_read_19 ?_
  refine ev_istore_n (pc := 20) (L' := [some (.ref a), some (.ref p0), some (.int 0)]) (i := 2) rfl (by decide) rfl rfl dX9_read_20 ?_
  exact ev_weak (qL_s (qL_s (qL_s qL_nil))) (e_X9_read_21 F _ _ _ _ _ h17)
theorem dX11_placeDraft_0 : decode cX11_placeDraft 0 = .ok (.iload_n 1, 1) := by decide +kernel
theorem dX11_placeDraft_1 : decode cX11_placeDraft 1 = .ok (.ifCond .lt 30, 3) := by decide +kernel
theorem dX11_placeDraft_4 : decode cX11_placeDraft 4 = .ok (.iload_n 1, 1) := by decide +kernel
theorem dX11_placeDraft_5 : decode cX11_placeDraft 5 = .ok (.iconst 4, 1) := by decide +kernel
theorem dX11_placeDraft_6 : decode cX11_placeDraft 6 = .ok (.if_icmp .ge 25, 3) := by decide +kernel
theorem dX11_placeDraft_9 : decode cX11_placeDraft 9 = .ok (.aload_n 0, 1) := by decide +kernel
theorem dX11_placeDraft_10 : decode cX11_placeDraft 10 = .ok (.getfield 23, 3) := by decide +kernel
theorem dX11_placeDraft_13 : decode cX11_placeDraft 13 = .ok (.iload_n 1, 1) := by decide +kernel
theorem dX11_placeDraft_14 : decode cX11_placeDraft 14 = .ok (.aaload, 1) := by decide +kernel
theorem dX11_placeDraft_15 : decode cX11_placeDraft 15 = .ok (.astore_n 2, 1) := by decide +kernel
theorem dX11_placeDraft_16 : decode cX11_placeDraft 16 = .ok (.aload_n 0, 1) := by decide +kernel
theorem dX11_placeDraft_17 : decode cX11_placeDraft 17 = .ok (.getfield 23, 3) := by decide +kernel
theorem dX11_placeDraft_20 : decode cX11_placeDraft 20 = .ok (.iload_n 1, 1) := by decide +kernel
theorem dX11_placeDraft_21 : decode cX11_placeDraft 21 = .ok (.aload_n 0, 1) := by decide +kernel
theorem dX11_placeDraft_22 : decode cX11_placeDraft 22 = .ok (.getfield 28, 3) := by decide +kernel
theorem dX11_placeDraft_25 : decode cX11_placeDraft 25 = .ok (.aastore, 1) := by decide +kernel
theorem dX11_placeDraft_26 : decode cX11_placeDraft 26 = .ok (.aload_n 0, 1) := by decide +kernel
theorem dX11_placeDraft_27 : decode cX11_placeDraft 27 = .ok (.aload_n 2, 1) := by decide +kernel
theorem dX11_placeDraft_28 : decode cX11_placeDraft 28 = .ok (.putfield 28, 3) := by decide +kernel
theorem dX11_placeDraft_31 : decode cX11_placeDraft 31 = .ok (.return_, 1) := by decide +kernel
def f_X11_placeDraft (F : Nat) (S : gk_S) (a : Nat) (p0 : Int32) : Option (Unit × gk_S) := if p0 < (0 : Int32) then (some ((), S)) else if (4 : Int32) ≤ p0 then (some ((), S)) else qk (isb S a 8) <| qP (gP S 802 a) fun b7 => qk (isb S b7 16) <| qk (inb p0 (gL S b7)) <| qP (aP S b7 p0) fun b14 => qP (gP S 802 a) fun b17 => qP (gP S 810 a) fun b20 => qk (isb S b17 16) <| qk (isb S b20 4) <| qk (inb p0 (gL S b17)) <| qv (wP S b17 p0 b20) fun S29 => qv (sP S29 810 a (some b14)) fun S32 => some ((), S32)
theorem e_X11_placeDraft {X : gk_X} {F : Nat} {S : gk_S} {a : Nat} {p0 : Int32} {r : (Unit × gk_S)} (h0 : f_X11_placeDraft F S a p0 = some r) : EvM X m_X11_placeDraft 1 0 0 [.ref a, .int p0] S (qRU r) := by
  unfold f_X11_placeDraft at h0
  refine ev_method (by decide +kernel) rfl rfl (Nat.le_of_ble_eq_true rfl) ?_
  show EvW X m_X11_placeDraft 1 0 0 0 [some (.ref a), some (.int p0), none] [] S _
  refine ev_iload_n (pc := 0) (i := 1) rfl rfl dX11_placeDraft_0 ?_
  refine ev_if_lt (pc := 1) (tgt := 31) (by decide) dX11_placeDraft_1 (fun c1 => ?_) (fun c1 => ?_)
  · replace h0 := qi_t h0 c1
    exact ev_return (pc := 31) rfl (by cases h0; rfl) dX11_placeDraft_31
  · replace h0 := qi_f h0 c1
    refine ev_iload_n (pc := 4) (i := 1) rfl rfl dX11_placeDraft_4 ?_
    refine ev_iconst (pc := 5) (v := 4) (by decide) dX11_placeDraft_5 ?_
    refine ev_ic_ge (pc := 6) (tgt := 31) (by decide) dX11_placeDraft_6 (fun c3 => ?_) (fun c3 => ?_)
    · replace h0 := qi_t h0 c3
      exact ev_return (pc := 31) rfl (by cases h0; rfl) dX11_placeDraft_31
    · replace h0 := qi_f h0 c3
      refine ev_aload_n (pc := 9) (i := 0) rfl rfl rfl dX11_placeDraft_9 ?_
      obtain ⟨g5, h6⟩ := qk_el h0; clear h0
      obtain ⟨b7, e8, h9⟩ := qP_el h6; clear h6
      refine xv_getP (pc := 10) fn_802 (isb_el g5) e8 gw_284 dX11_placeDraft_10 ?_
      refine ev_iload_n (pc := 13) (i := 1) rfl rfl dX11_placeDraft_13 ?_
      obtain ⟨g10, h11⟩ := qk_el h9; clear h9
      obtain ⟨g12, h13⟩ := qk_el h11; clear h11
      obtain ⟨b14, e15, h16⟩ := qP_el h13; clear h13
      refine yv_aald (pc := 14) (isb_el g10) (by decide) (inb_el g12) e15 dX11_placeDraft_14 ?_
      refine ev_astore_n (pc := 15) (L' := [some (.ref a), some (.int p0), some (.ref b14)]) (i := 2) rfl (by decide) rfl rfl rfl dX11_placeDraft_15 ?_
      refine ev_aload_n (pc := 16) (i := 0) rfl rfl rfl dX11_placeDraft_16 ?_
      obtain ⟨b17, e18, h19⟩ := qP_el h16; clear h16
      refine xv_getP (pc := 17) fn_802 (isb_el g5) e18 gw_284 dX11_placeDraft_17 ?_
      refine ev_iload_n (pc := 20) (i := 1) rfl rfl dX11_placeDraft_20 ?_
      refine ev_aload_n (pc := 21) (i := 0) rfl rfl rfl dX11_placeDraft_21 ?_
      obtain ⟨b20, e21, h22⟩ := qP_el h19; clear h19
      refine xv_getP (pc := 22) fn_810 (isb_el g5) e21 gw_292 dX11_placeDraft_22 ?_
      obtain ⟨g23, h24⟩ := qk_el h22; clear h22
      obtain ⟨g25, h26⟩ := qk_el h24; clear h24
      obtain ⟨g27, h28⟩ := qk_el h26; clear h26
      obtain ⟨S29, e30, h31⟩ := qv_el h28; clear h28
      refine yv_aast (pc := 25) (isb_el g23) (by decide) (isb_el g25) (inb_el g27) e30 dX11_placeDraft_25 ?_
      refine ev_aload_n (pc := 26) (i := 0) rfl rfl rfl dX11_placeDraft_26 ?_
      refine ev_aload_n (pc := 27) (i := 2) rfl rfl rfl dX11_placeDraft_27 ?_
      obtain ⟨S32, e33, h34⟩ := qv_el h31; clear h31
      refine yv_putP (pc := 28) fn_810 (is_wP (isb_el g5) e30) e33 gw_292 dX11_placeDraft_28 ?_
      exact ev_return (pc := 31) rfl (by cases h34; rfl) dX11_placeDraft_31
theorem dX11_load_0 : decode cX11_load 0 = .ok (.iload_n 1, 1) := by decide +kernel
theorem dX11_load_1 : decode cX11_load 1 = .ok (.invokestatic 89, 3) := by decide +kernel
theorem dX11_load_4 : decode cX11_load 4 = .ok (.aload_n 0, 1) := by decide +kernel
theorem dX11_load_5 : decode cX11_load 5 = .ok (.getfield 37, 3) := by decide +kernel
theorem dX11_load_8 : decode cX11_load 8 = .ok (.aload_n 0, 1) := by decide +kernel
theorem dX11_load_9 : decode cX11_load 9 = .ok (.getfield 28, 3) := by decide +kernel
theorem dX11_load_12 : decode cX11_load 12 = .ok (.invokevirtual 92, 3) := by decide +kernel
theorem dX11_load_15 : decode cX11_load 15 = .ok (.istore_n 2, 1) := by decide +kernel
theorem dX11_load_16 : decode cX11_load 16 = .ok (.aload_n 0, 1) := by decide +kernel
theorem dX11_load_17 : decode cX11_load 17 = .ok (.getfield 14, 3) := by decide +kernel
theorem dX11_load_20 : decode cX11_load 20 = .ok (.iconst 0, 1) := by decide +kernel
theorem dX11_load_21 : decode cX11_load 21 = .ok (.putfield 83, 3) := by decide +kernel
theorem dX11_load_24 : decode cX11_load 24 = .ok (.aload_n 0, 1) := by decide +kernel
theorem dX11_load_25 : decode cX11_load 25 = .ok (.aload_n 0, 1) := by decide +kernel
theorem dX11_load_26 : decode cX11_load 26 = .ok (.getfield 37, 3) := by decide +kernel
theorem dX11_load_29 : decode cX11_load 29 = .ok (.getfield 96, 3) := by decide +kernel
theorem dX11_load_32 : decode cX11_load 32 = .ok (.putfield 76, 3) := by decide +kernel
theorem dX11_load_35 : decode cX11_load 35 = .ok (.iload_n 2, 1) := by decide +kernel
theorem dX11_load_36 : decode cX11_load 36 = .ok (.ifCond .ne 13, 3) := by decide +kernel
theorem dX11_load_39 : decode cX11_load 39 = .ok (.iconst (-1), 1) := by decide +kernel
theorem dX11_load_40 : decode cX11_load 40 = .ok (.aload_n 0, 1) := by decide +kernel
theorem dX11_load_41 : decode cX11_load 41 = .ok (.getfield 37, 3) := by decide +kernel
theorem dX11_load_44 : decode cX11_load 44 = .ok (.getfield 97, 3) := by decide +kernel
theorem dX11_load_47 : decode cX11_load 47 = .ok (.isub, 1) := by decide +kernel
theorem dX11_load_48 : decode cX11_load 48 = .ok (.ireturn, 1) := by decide +kernel
theorem dX11_load_49 : decode cX11_load 49 = .ok (.aload_n 0, 1) := by decide +kernel
theorem dX11_load_50 : decode cX11_load 50 = .ok (.iload_n 1, 1) := by decide +kernel
theorem dX11_load_51 : decode cX11_load 51 = .ok (.invokevirtual 100, 3) := by decide +kernel
theorem dX11_load_54 : decode cX11_load 54 = .ok (.aload_n 0, 1) := by decide +kernel
theorem dX11_load_55 : decode cX11_load 55 = .ok (.getfield 23, 3) := by decide +kernel
theorem dX11_load_58 : decode cX11_load 58 = .ok (.iload_n 1, 1) := by decide +kernel
theorem dX11_load_59 : decode cX11_load 59 = .ok (.aaload, 1) := by decide +kernel
theorem dX11_load_60 : decode cX11_load 60 = .ok (.getfield 103, 3) := by decide +kernel
theorem dX11_load_63 : decode cX11_load 63 = .ok (.ireturn, 1) := by decide +kernel
def f_X11_load (F : Nat) (S : gk_S) (a : Nat) (p0 : Int32) : Option ((Int32 ⊕ String) × gk_S) := qx (f_X11_checkList F S p0) fun x1 S2 => qk (isb S2 a 8) <| qP (gP S2 803 a) fun b9 => qP (gP S2 810 a) fun b12 => qk (isb S2 b9 7) <| qc (f_X9_read F S2 b9 b12) fun x17 S18 => qk (isb S18 a 8) <| qP (gP S18 800 a) fun b23 => qk (isb S18 b23 1) <| qv (sI S18 101 b23 0) fun S28 => qP (gP S28 803 a) fun b31 => qk (isb S28 b31 7) <| qv (gI S28 701 b31) fun x36 => qv (sI S28 812 a x36) fun S39 => if x17 = (0 : Int32) then (qP (gP S39 803 a) fun b65 => qk (isb S39 b65 7) <| qv (gI S39 702 b65) fun x70 => some (.inl ((-1) - x70), S39)) else qc (f_X11_placeDraft F S39 a p0) fun x44 S45 => qk (isb S45 a 8) <| qP (gP S45 802 a) fun b50 => qk (isb S45 b50 16) <| qk (inb p0 (gL S45 b50)) <| qP (aP S45 b50 p0) fun b57 => qk (isb S45 b57 4) <| qv (gI S45 401 b57) fun x62 => some (.inl x62, S45)
theorem e_X11_load {X : gk_X} {F : Nat} {k j : Nat} {S : gk_S} {a : Nat} {p0 : Int32} {r : ((Int32 ⊕ String) × gk_S)} (hb : qb r k j) (h0 : f_X11_load F S a p0 = some r) : EvM X m_X11_load 10 k j [.ref a, .int p0] S (qXI r) := by
  unfold f_X11_load at h0
  refine ev_method (by decide +kernel) rfl rfl (Nat.le_of_ble_eq_true rfl) ?_
  show EvW X m_X11_load 10 k j 0 [some (.ref a), some (.int p0), none] [] S _
  refine ev_iload_n (pc := 0) (i := 1) rfl rfl dX11_load_0 ?_
  rcases qx_el h0 with ⟨E5, T6, e3, z1⟩ | ⟨x1, S2, e3, h4⟩
  · subst z1
    exact xv_thrS (pc := 1) (st := []) (as := [.int p0]) ok_X11_checkList (e_X11_checkList (fun _ _ => qb_inr hb) e3) rfl rfl (by decide) (Nat.le_refl _) (Nat.le_refl _) rfl (Nat.le_of_ble_eq_true rfl) rfl gw_386 dX11_load_1
  clear h0
  refine xv_callS (pc := 1) (st := []) (as := [.int p0]) (v := none) (S' := S2) ok_X11_checkList (e_X11_checkList (k := 0) (j := 0) qb_inl e3) (by decide) rfl (Nat.le_of_ble_eq_true rfl) rfl gw_386 dX11_load_1 ?_
  refine ev_aload_n (pc := 4) (i := 0) rfl rfl rfl dX11_load_4 ?_
  obtain ⟨g7, h8⟩ := qk_el h4; clear h4
  obtain ⟨b9, e10, h11⟩ := qP_el h8; clear h8
  refine xv_getP (pc := 5) fn_803 (isb_el g7) e10 gw_285 dX11_load_5 ?_
  refine ev_aload_n (pc := 8) (i := 0) rfl rfl rfl dX11_load_8 ?_
  obtain ⟨b12, e13, h14⟩ := qP_el h11; clear h11
  refine xv_getP (pc := 9) fn_810 (isb_el g7) e13 gw_292 dX11_load_9 ?_
  obtain ⟨g15, h16⟩ := qk_el h14; clear h14
  obtain ⟨x17, S18, e19, h20⟩ := qc_el h16; clear h16
  refine xv_callV (pc := 12) (st := []) (as := [.ref b12]) (v := (some (.int x17))) (S' := S18) ok_X9_read (e_X9_read e19) (isb_el g15) (by decide) rfl (Nat.le_of_ble_eq_true rfl) rfl gw_456 dX11_load_12 ?_
  refine ev_istore_n (pc := 15) (L' := [some (.ref a), some (.int p0), some (.int x17)]) (i := 2) rfl (by decide) rfl rfl dX11_load_15 ?_
  refine ev_aload_n (pc := 16) (i := 0) rfl rfl rfl dX11_load_16 ?_
  obtain ⟨g21, h22⟩ := qk_el h20; clear h20
  obtain ⟨b23, e24, h25⟩ := qP_el h22; clear h22
  refine xv_getP (pc := 17) fn_800 (isb_el g21) e24 gw_282 dX11_load_17 ?_
  refine ev_iconst (pc := 20) (v := 0) (by decide) dX11_load_20 ?_
  obtain ⟨g26, h27⟩ := qk_el h25; clear h25
  obtain ⟨S28, e29, h30⟩ := qv_el h27; clear h27
  refine yv_putI (pc := 21) fn_101 ⟨rfl, rfl⟩ (isb_el g26) e29 gw_42 dX11_load_21 ?_
  refine ev_aload_n (pc := 24) (i := 0) rfl rfl rfl dX11_load_24 ?_
  refine ev_aload_n (pc := 25) (i := 0) rfl rfl rfl dX11_load_25 ?_
  obtain ⟨b31, e32, h33⟩ := qP_el h30; clear h30
  refine xv_getP (pc := 26) fn_803 (is_sI (isb_el g21) e29) e32 gw_285 dX11_load_26 ?_
  obtain ⟨g34, h35⟩ := qk_el h33; clear h33
  obtain ⟨x36, e37, h38⟩ := qv_el h35; clear h35
  refine xv_getIv (pc := 29) fn_701 (isb_el g34) e37 gw_120 dX11_load_29 ?_
  obtain ⟨S39, e40, h41⟩ := qv_el h38; clear h38
  refine yv_putI (pc := 32) fn_812 ⟨rfl, rfl⟩ (is_sI (isb_el g21) e29) e40 gw_294 dX11_load_32 ?_
  refine ev_iload_n (pc := 35) (i := 2) rfl rfl dX11_load_35 ?_
  refine ev_if_ne (pc := 36) (tgt := 49) (by decide) dX11_load_36 (fun c42 => ?_) (fun c42 => ?_)
  · replace h41 := qi_f h41 c42
    refine ev_aload_n (pc := 49) (i := 0) rfl rfl rfl dX11_load_49 ?_
    refine ev_iload_n (pc := 50) (i := 1) rfl rfl dX11_load_50 ?_
    obtain ⟨x44, S45, e46, h47⟩ := qc_el h41; clear h41
    refine xv_callV (pc := 51) (st := []) (as := [.int p0]) (v := none) (S' := S45) ok_X11_placeDraft (e_X11_placeDraft e46) (is_sI (is_sI (isb_el g21) e29) e40) (by decide) rfl (Nat.le_of_ble_eq_true rfl) rfl gw_658 dX11_load_51 ?_
    refine ev_aload_n (pc := 54) (i := 0) rfl rfl rfl dX11_load_54 ?_
    obtain ⟨g48, h49⟩ := qk_el h47; clear h47
    obtain ⟨b50, e51, h52⟩ := qP_el h49; clear h49
    refine xv_getP (pc := 55) fn_802 (isb_el g48) e51 gw_284 dX11_load_55 ?_
    refine ev_iload_n (pc := 58) (i := 1) rfl rfl dX11_load_58 ?_
    obtain ⟨g53, h54⟩ := qk_el h52; clear h52
    obtain ⟨g55, h56⟩ := qk_el h54; clear h54
    obtain ⟨b57, e58, h59⟩ := qP_el h56; clear h56
    refine yv_aald (pc := 59) (isb_el g53) (by decide) (inb_el g55) e58 dX11_load_59 ?_
    obtain ⟨g60, h61⟩ := qk_el h59; clear h59
    obtain ⟨x62, e63, h64⟩ := qv_el h61; clear h61
    refine xv_getIv (pc := 60) fn_401 (isb_el g60) e63 gw_95 dX11_load_60 ?_
    cases h64
    exact ev_ireturn (pc := 63) rfl rfl rfl dX11_load_63
  · replace h41 := qi_t h41 c42
    refine ev_iconst (pc := 39) (v := -1) (by decide) dX11_load_39 ?_
    refine ev_aload_n (pc := 40) (i := 0) rfl rfl rfl dX11_load_40 ?_
    obtain ⟨b65, e66, h67⟩ := qP_el h41; clear h41
    refine xv_getP (pc := 41) fn_803 (is_sI (is_sI (isb_el g21) e29) e40) e66 gw_285 dX11_load_41 ?_
    obtain ⟨g68, h69⟩ := qk_el h67; clear h67
    obtain ⟨x70, e71, h72⟩ := qv_el h69; clear h69
    refine xv_getIv (pc := 44) fn_702 (isb_el g68) e71 gw_122 dX11_load_44 ?_
    refine ev_isub (pc := 47)  dX11_load_47 ?_
    cases h72
    exact ev_ireturn (pc := 48) rfl rfl rfl dX11_load_48
theorem dL_load_0 : decode cL_load 0 = .ok (.aload_n 2, 1) := by decide +kernel
theorem dL_load_1 : decode cL_load 1 = .ok (.iconst 0, 1) := by decide +kernel
theorem dL_load_2 : decode cL_load 2 = .ok (.aload_n 0, 1) := by decide +kernel
theorem dL_load_3 : decode cL_load 3 = .ok (.iload_n 1, 1) := by decide +kernel
theorem dL_load_4 : decode cL_load 4 = .ok (.invokevirtual 7, 3) := by decide +kernel
theorem dL_load_7 : decode cL_load 7 = .ok (.i2l, 1) := by decide +kernel
theorem dL_load_8 : decode cL_load 8 = .ok (.lastore, 1) := by decide +kernel
theorem dL_load_9 : decode cL_load 9 = .ok (.goto 6, 3) := by decide +kernel
theorem dL_load_12 : decode cL_load 12 = .ok (.astore_n 3, 1) := by decide +kernel
theorem dL_load_13 : decode cL_load 13 = .ok (.iconst 1, 1) := by decide +kernel
theorem dL_load_14 : decode cL_load 14 = .ok (.ireturn, 1) := by decide +kernel
theorem dL_load_15 : decode cL_load 15 = .ok (.iconst 0, 1) := by decide +kernel
theorem dL_load_16 : decode cL_load 16 = .ok (.ireturn, 1) := by decide +kernel
def f_L_load (F : Nat) (S : gk_S) (p0 : Nat) (p1 : Int32) (p2 : Nat) : Option (Int32 × gk_S) := qk (isb S p0 8) <| qh (f_X11_load F S p0 p1) (fun x3 S4 => qk (isb S4 p2 12) <| qk (inb 0 (gL S4 p2)) <| qv (wJ S4 p2 0 ((x3 : Int32).toInt64)) fun S14 => some (0, S14)) (fun E7 T8 => if E7 = gx_I then (some (1, T8)) else none)
theorem e_L_load {X : gk_X} {F : Nat} {k j : Nat} {S : gk_S} {p0 : Nat} {p1 : Int32} {p2 : Nat} {r : (Int32 × gk_S)} (hb : r.1 = 0 ∨ (1 ≤ k ∧ 6 ≤ j)) (h0 : f_L_load F S p0 p1 p2 = some r) : EvM X m_L_load 11 k j [.ref p0, .int p1, .ref p2] S (qRI r) := by
  unfold f_L_load at h0
  refine ev_methodH (by decide +kernel) (by decide) rfl (Nat.le_of_ble_eq_true rfl) ?_
  show EvW X m_L_load 11 k j 0 [some (.ref p0), some (.int p1), some (.ref p2), none] [] S _
  refine ev_aload_n (pc := 0) (i := 2) rfl rfl rfl dL_load_0 ?_
  refine ev_iconst (pc := 1) (v := 0) (by decide) dL_load_1 ?_
  refine ev_aload_n (pc := 2) (i := 0) rfl rfl rfl dL_load_2 ?_
  refine ev_iload_n (pc := 3) (i := 1) rfl rfl dL_load_3 ?_
  obtain ⟨g1, h2⟩ := qk_el h0; clear h0
  rcases qh_el h2 with ⟨E7, T8, e5, h6⟩ | ⟨x3, S4, e5, h6⟩
  · by_cases c9 : E7 = gx_I
    · replace h6 := qi_t h6 c9; subst c9
      have hb9 : 1 ≤ k ∧ 6 ≤ j := by cases h6; exact hb.resolve_left (by decide)
      refine yv_catV (pc := 4) (st := [.int 0, .ref p2]) (as := [.int p1]) (i9 := 3) (len9 := 1) (pre := []) (suf := []) (x := (0, 9, 12, 13)) (name := "java/lang/IndexOutOfBoundsException") ok_X11_load (e_X11_load (k := k) (j := j) (fun _ _ => hb9) e5) (isb_el g1) rfl (by intro z hz; cases hz) (by decide) (by decide) (by decide) gw_381 (by decide +kernel) (.inr ⟨3, rfl, rfl, rfl⟩) (by decide) rfl (gl9 rfl) (by decide) rfl (Nat.le_of_ble_eq_true rfl) rfl gw_382 dL_load_4 dL_load_12 ?_
      refine ev_iconst (pc := 13) (v := 1) (by decide) dL_load_13 ?_
      exact ev_ireturn (pc := 14) rfl rfl (by cases h6; rfl) dL_load_14
    replace h6 := qi_f h6 c9
    cases h6
  clear h2
  refine xv_callV (pc := 4) (st := [.int 0, .ref p2]) (as := [.int p1]) (v := (some (.int x3))) (S' := S4) ok_X11_load (e_X11_load (k := 0) (j := 0) qb_inl e5) (isb_el g1) (by decide) rfl (Nat.le_of_ble_eq_true rfl) rfl gw_382 dL_load_4 ?_
  refine ev_i2l (pc := 7)  dL_load_7 ?_
  obtain ⟨g10, h11⟩ := qk_el h6; clear h6
  obtain ⟨g12, h13⟩ := qk_el h11; clear h11
  obtain ⟨S14, e15, h16⟩ := qv_el h13; clear h13
  refine yv_last (pc := 8) (isb_el g10) (inb_el g12) e15 dL_load_8 ?_
  refine ev_goto (pc := 9) (tgt := 15) (by decide) dL_load_9 ?_
  refine ev_iconst (pc := 15) (v := 0) (by decide) dL_load_15 ?_
  exact ev_ireturn (pc := 16) rfl rfl (by cases h16; rfl) dL_load_16
theorem dX12_throwsIf_0 : decode cX12_throwsIf 0 = .ok (.aload_n 0, 1) := by decide +kernel
theorem dX12_throwsIf_1 : decode cX12_throwsIf 1 = .ok (.iload_n 1, 1) := by decide +kernel
theorem dX12_throwsIf_2 : decode cX12_throwsIf 2 = .ok (.ifCond .eq 7, 3) := by decide +kernel
theorem dX12_throwsIf_5 : decode cX12_throwsIf 5 = .ok (.iload_n 2, 1) := by decide +kernel
theorem dX12_throwsIf_6 : decode cX12_throwsIf 6 = .ok (.goto 4, 3) := by decide +kernel
theorem dX12_throwsIf_9 : decode cX12_throwsIf 9 = .ok (.iconst 0, 1) := by decide +kernel
theorem dX12_throwsIf_10 : decode cX12_throwsIf 10 = .ok (.putfield 1, 3) := by decide +kernel
theorem dX12_throwsIf_13 : decode cX12_throwsIf 13 = .ok (.iload_n 1, 1) := by decide +kernel
theorem dX12_throwsIf_14 : decode cX12_throwsIf 14 = .ok (.ireturn, 1) := by decide +kernel
def f_X12_throwsIf (F : Nat) (S : gk_S) (a : Nat) (p0 : Int32) (p1 : Int32) : Option (Int32 × gk_S) := if p0 = (0 : Int32) then (qk (isb S a 9) <| qv (sI S 900 a 0) fun S5 => qk (zb p0) <| some (p0, S5)) else qk (isb S a 9) <| qv (sI S 900 a p1) fun S12 => qk (zb p0) <| some (p0, S12)
theorem e_X12_throwsIf {X : gk_X} {F : Nat} {S : gk_S} {a : Nat} {p0 : Int32} {p1 : Int32} {r : (Int32 × gk_S)} (h0 : f_X12_throwsIf F S a p0 p1 = some r) : EvM X m_X12_throwsIf 1 0 0 [.ref a, .int p0, .int p1] S (qRI r) := by
  unfold f_X12_throwsIf at h0
  refine ev_method (by decide +kernel) rfl rfl (Nat.le_of_ble_eq_true rfl) ?_
  show EvW X m_X12_throwsIf 1 0 0 0 [some (.ref a), some (.int p0), some (.int p1)] [] S _
  refine ev_aload_n (pc := 0) (i := 0) rfl rfl rfl dX12_throwsIf_0 ?_
  refine ev_iload_n (pc := 1) (i := 1) rfl rfl dX12_throwsIf_1 ?_
  refine ev_if_eq (pc := 2) (tgt := 9) (by decide) dX12_throwsIf_2 (fun c1 => ?_) (fun c1 => ?_)
  · replace h0 := qi_t h0 c1
    refine ev_iconst (pc := 9) (v := 0) (by decide) dX12_throwsIf_9 ?_
    obtain ⟨g3, h4⟩ := qk_el h0; clear h0
    obtain ⟨S5, e6, h7⟩ := qv_el h4; clear h4
    refine yv_putI (pc := 10) fn_900 ⟨rfl, rfl⟩ (isb_el g3) e6 gw_1140 dX12_throwsIf_10 ?_
    refine ev_iload_n (pc := 13) (i := 1) rfl rfl dX12_throwsIf_13 ?_
    obtain ⟨g8, h9⟩ := qk_el h7; clear h7
    exact ev_ireturn (pc := 14) rfl (zb_nar g8) (by cases h9; rfl) dX12_throwsIf_14
  · replace h0 := qi_f h0 c1
    refine ev_iload_n (pc := 5) (i := 2) rfl rfl dX12_throwsIf_5 ?_
    refine ev_goto (pc := 6) (tgt := 10) (by decide) dX12_throwsIf_6 ?_
    obtain ⟨g10, h11⟩ := qk_el h0; clear h0
    obtain ⟨S12, e13, h14⟩ := qv_el h11; clear h11
    refine yv_putI (pc := 10) fn_900 ⟨rfl, rfl⟩ (isb_el g10) e13 gw_1140 dX12_throwsIf_10 ?_
    refine ev_iload_n (pc := 13) (i := 1) rfl rfl dX12_throwsIf_13 ?_
    obtain ⟨g15, h16⟩ := qk_el h14; clear h14
    exact ev_ireturn (pc := 14) rfl (zb_nar g15) (by cases h16; rfl) dX12_throwsIf_14
theorem dX12_byteAt_0 : decode cX12_byteAt 0 = .ok (.iload_n 1, 1) := by decide +kernel
theorem dX12_byteAt_1 : decode cX12_byteAt 1 = .ok (.aload_n 0, 1) := by decide +kernel
theorem dX12_byteAt_2 : decode cX12_byteAt 2 = .ok (.getfield 18, 3) := by decide +kernel
theorem dX12_byteAt_5 : decode cX12_byteAt 5 = .ok (.if_icmp .ge 16, 3) := by decide +kernel
theorem dX12_byteAt_8 : decode cX12_byteAt 8 = .ok (.aload_n 0, 1) := by decide +kernel
theorem dX12_byteAt_9 : decode cX12_byteAt 9 = .ok (.getfield 14, 3) := by decide +kernel
theorem dX12_byteAt_12 : decode cX12_byteAt 12 = .ok (.iload_n 1, 1) := by decide +kernel
theorem dX12_byteAt_13 : decode cX12_byteAt 13 = .ok (.baload, 1) := by decide +kernel
theorem dX12_byteAt_14 : decode cX12_byteAt 14 = .ok (.sipush 255, 3) := by decide +kernel
theorem dX12_byteAt_17 : decode cX12_byteAt 17 = .ok (.iand, 1) := by decide +kernel
theorem dX12_byteAt_18 : decode cX12_byteAt 18 = .ok (.goto 4, 3) := by decide +kernel
theorem dX12_byteAt_21 : decode cX12_byteAt 21 = .ok (.iconst (-1), 1) := by decide +kernel
theorem dX12_byteAt_22 : decode cX12_byteAt 22 = .ok (.ireturn, 1) := by decide +kernel
def f_X12_byteAt (F : Nat) (S : gk_S) (a : Nat) (p0 : Int32) : Option (Int32 × gk_S) := qk (isb S a 9) <| qv (gI S 903 a) fun x3 => if x3 ≤ p0 then (some ((-1), S)) else qP (gP S 901 a) fun b8 => qk (isb S b8 10) <| qk (inb p0 (gL S b8)) <| qv (aI S b8 p0) fun x15 => some ((x15 &&& 255), S)
theorem e_X12_byteAt {X : gk_X} {F : Nat} {S : gk_S} {a : Nat} {p0 : Int32} {r : (Int32 × gk_S)} (h0 : f_X12_byteAt F S a p0 = some r) : EvM X m_X12_byteAt 1 0 0 [.ref a, .int p0] S (qRI r) := by
  unfold f_X12_byteAt at h0
  refine ev_method (by decide +kernel) rfl rfl (Nat.le_of_ble_eq_true rfl) ?_
  show EvW X m_X12_byteAt 1 0 0 0 [some (.ref a), some (.int p0)] [] S _
  refine ev_iload_n (pc := 0) (i := 1) rfl rfl dX12_byteAt_0 ?_
  refine ev_aload_n (pc := 1) (i := 0) rfl rfl rfl dX12_byteAt_1 ?_
  obtain ⟨g1, h2⟩ := qk_el h0; clear h0
  obtain ⟨x3, e4, h5⟩ := qv_el h2; clear h2
  refine xv_getIv (pc := 2) fn_903 (isb_el g1) e4 gw_1143 dX12_byteAt_2 ?_
  refine ev_ic_ge (pc := 5) (tgt := 21) (by decide) dX12_byteAt_5 (fun c6 => ?_) (fun c6 => ?_)
  · replace h5 := qi_t h5 c6
    refine ev_iconst (pc := 21) (v := -1) (by decide) dX12_byteAt_21 ?_
    exact ev_ireturn (pc := 22) rfl rfl (by cases h5; rfl) dX12_byteAt_22
  · replace h5 := qi_f h5 c6
    refine ev_aload_n (pc := 8) (i := 0) rfl rfl rfl dX12_byteAt_8 ?_
    obtain ⟨b8, e9, h10⟩ := qP_el h5; clear h5
    refine xv_getP (pc := 9) fn_901 (isb_el g1) e9 gw_1141 dX12_byteAt_9 ?_
    refine ev_iload_n (pc := 12) (i := 1) rfl rfl dX12_byteAt_12 ?_
    obtain ⟨g11, h12⟩ := qk_el h10; clear h10
    obtain ⟨g13, h14⟩ := qk_el h12; clear h12
    obtain ⟨x15, e16, h17⟩ := qv_el h14; clear h14
    refine yv_bald (pc := 13) (isb_el g11) (inb_el g13) e16 dX12_byteAt_13 ?_
    refine ev_sipush (pc := 14) (v := 255) (by decide) dX12_byteAt_14 ?_
    refine ev_iand (pc := 17)  dX12_byteAt_17 ?_
    refine ev_goto (pc := 18) (tgt := 22) (by decide) dX12_byteAt_18 ?_
    exact ev_ireturn (pc := 22) rfl rfl (by cases h17; rfl) dX12_byteAt_22
theorem dX12_isSmall_0 : decode cX12_isSmall 0 = .ok (.iload_n 0, 1) := by decide +kernel
theorem dX12_isSmall_1 : decode cX12_isSmall 1 = .ok (.bipush 97, 2) := by decide +kernel
theorem dX12_isSmall_3 : decode cX12_isSmall 3 = .ok (.if_icmp .lt 13, 3) := by decide +kernel
theorem dX12_isSmall_6 : decode cX12_isSmall 6 = .ok (.iload_n 0, 1) := by decide +kernel
theorem dX12_isSmall_7 : decode cX12_isSmall 7 = .ok (.bipush 122, 2) := by decide +kernel
theorem dX12_isSmall_9 : decode cX12_isSmall 9 = .ok (.if_icmp .gt 7, 3) := by decide +kernel
theorem dX12_isSmall_12 : decode cX12_isSmall 12 = .ok (.iconst 1, 1) := by decide +kernel
theorem dX12_isSmall_13 : decode cX12_isSmall 13 = .ok (.goto 4, 3) := by decide +kernel
theorem dX12_isSmall_16 : decode cX12_isSmall 16 = .ok (.iconst 0, 1) := by decide +kernel
theorem dX12_isSmall_17 : decode cX12_isSmall 17 = .ok (.ireturn, 1) := by decide +kernel
def f_X12_isSmall (F : Nat) (S : gk_S) (p0 : Int32) : Option (Int32 × gk_S) := if p0 < (97 : Int32) then (some (0, S)) else if (122 : Int32) < p0 then (some (0, S)) else some (1, S)
theorem e_X12_isSmall {X : gk_X} {F : Nat} {S : gk_S} {p0 : Int32} {r : (Int32 × gk_S)} (h0 : f_X12_isSmall F S p0 = some r) : EvM X m_X12_isSmall 1 0 0 [.int p0] S (qRI r) := by
  unfold f_X12_isSmall at h0
  refine ev_method (by decide +kernel) rfl rfl (Nat.le_of_ble_eq_true rfl) ?_
  show EvW X m_X12_isSmall 1 0 0 0 [some (.int p0)] [] S _
  refine ev_iload_n (pc := 0) (i := 0) rfl rfl dX12_isSmall_0 ?_
  refine ev_bipush (pc := 1) (v := 97) (by decide) dX12_isSmall_1 ?_
  refine ev_ic_lt (pc := 3) (tgt := 16) (by decide) dX12_isSmall_3 (fun c1 => ?_) (fun c1 => ?_)
  · replace h0 := qi_t h0 c1
    refine ev_iconst (pc := 16) (v := 0) (by decide) dX12_isSmall_16 ?_
    exact ev_ireturn (pc := 17) rfl rfl (by cases h0; rfl) dX12_isSmall_17
  · replace h0 := qi_f h0 c1
    refine ev_iload_n (pc := 6) (i := 0) rfl rfl dX12_isSmall_6 ?_
    refine ev_bipush (pc := 7) (v := 122) (by decide) dX12_isSmall_7 ?_
    refine ev_ic_gt (pc := 9) (tgt := 16) (by decide) dX12_isSmall_9 (fun c3 => ?_) (fun c3 => ?_)
    · replace h0 := qi_t h0 c3
      refine ev_iconst (pc := 16) (v := 0) (by decide) dX12_isSmall_16 ?_
      exact ev_ireturn (pc := 17) rfl rfl (by cases h0; rfl) dX12_isSmall_17
    · replace h0 := qi_f h0 c3
      refine ev_iconst (pc := 12) (v := 1) (by decide) dX12_isSmall_12 ?_
      refine ev_goto (pc := 13) (tgt := 17) (by decide) dX12_isSmall_13 ?_
      exact ev_ireturn (pc := 17) rfl rfl (by cases h0; rfl) dX12_isSmall_17
theorem dX12_isDigit_0 : decode cX12_isDigit 0 = .ok (.iload_n 0, 1) := by decide +kernel
theorem dX12_isDigit_1 : decode cX12_isDigit 1 = .ok (.bipush 48, 2) := by decide +kernel
theorem dX12_isDigit_3 : decode cX12_isDigit 3 = .ok (.if_icmp .lt 13, 3) := by decide +kernel
theorem dX12_isDigit_6 : decode cX12_isDigit 6 = .ok (.iload_n 0, 1) := by decide +kernel
theorem dX12_isDigit_7 : decode cX12_isDigit 7 = .ok (.bipush 57, 2) := by decide +kernel
theorem dX12_isDigit_9 : decode cX12_isDigit 9 = .ok (.if_icmp .gt 7, 3) := by decide +kernel
theorem dX12_isDigit_12 : decode cX12_isDigit 12 = .ok (.iconst 1, 1) := by decide +kernel
theorem dX12_isDigit_13 : decode cX12_isDigit 13 = .ok (.goto 4, 3) := by decide +kernel
theorem dX12_isDigit_16 : decode cX12_isDigit 16 = .ok (.iconst 0, 1) := by decide +kernel
theorem dX12_isDigit_17 : decode cX12_isDigit 17 = .ok (.ireturn, 1) := by decide +kernel
def f_X12_isDigit (F : Nat) (S : gk_S) (p0 : Int32) : Option (Int32 × gk_S) := if p0 < (48 : Int32) then (some (0, S)) else if (57 : Int32) < p0 then (some (0, S)) else some (1, S)
theorem e_X12_isDigit {X : gk_X} {F : Nat} {S : gk_S} {p0 : Int32} {r : (Int32 × gk_S)} (h0 : f_X12_isDigit F S p0 = some r) : EvM X m_X12_isDigit 1 0 0 [.int p0] S (qRI r) := by
  unfold f_X12_isDigit at h0
  refine ev_method (by decide +kernel) rfl rfl (Nat.le_of_ble_eq_true rfl) ?_
  show EvW X m_X12_isDigit 1 0 0 0 [some (.int p0)] [] S _
  refine ev_iload_n (pc := 0) (i := 0) rfl rfl dX12_isDigit_0 ?_
  refine ev_bipush (pc := 1) (v := 48) (by decide) dX12_isDigit_1 ?_
  refine ev_ic_lt (pc := 3) (tgt := 16) (by decide) dX12_isDigit_3 (fun c1 => ?_) (fun c1 => ?_)
  · replace h0 := qi_t h0 c1
    refine ev_iconst (pc := 16) (v := 0) (by decide) dX12_isDigit_16 ?_
    exact ev_ireturn (pc := 17) rfl rfl (by cases h0; rfl) dX12_isDigit_17
  · replace h0 := qi_f h0 c1
    refine ev_iload_n (pc := 6) (i := 0) rfl rfl dX12_isDigit_6 ?_
    refine ev_bipush (pc := 7) (v := 57) (by decide) dX12_isDigit_7 ?_
    refine ev_ic_gt (pc := 9) (tgt := 16) (by decide) dX12_isDigit_9 (fun c3 => ?_) (fun c3 => ?_)
    · replace h0 := qi_t h0 c3
      refine ev_iconst (pc := 16) (v := 0) (by decide) dX12_isDigit_16 ?_
      exact ev_ireturn (pc := 17) rfl rfl (by cases h0; rfl) dX12_isDigit_17
    · replace h0 := qi_f h0 c3
      refine ev_iconst (pc := 12) (v := 1) (by decide) dX12_isDigit_12 ?_
      refine ev_goto (pc := 13) (tgt := 17) (by decide) dX12_isDigit_13 ?_
      exact ev_ireturn (pc := 17) rfl rfl (by cases h0; rfl) dX12_isDigit_17
theorem dX12_isAt_0 : decode cX12_isAt 0 = .ok (.iconst 0, 1) := by decide +kernel
theorem dX12_isAt_1 : decode cX12_isAt 1 = .ok (.istore_n 3, 1) := by decide +kernel
theorem dX12_isAt_2 : decode cX12_isAt 2 = .ok (.iload_n 3, 1) := by decide +kernel
theorem dX12_isAt_3 : decode cX12_isAt 3 = .ok (.aload_n 0, 1) := by decide +kernel
theorem dX12_isAt_4 : decode cX12_isAt 4 = .ok (.getfield 65, 3) := by decide +kernel
theorem dX12_isAt_7 : decode cX12_isAt 7 = .ok (.iload_n 1, 1) := by decide +kernel
theorem dX12_isAt_8 : decode cX12_isAt 8 = .ok (.iaload, 1) := by decide +kernel
theorem dX12_isAt_9 : decode cX12_isAt 9 = .ok (.if_icmp .ge 35, 3) := by decide +kernel
theorem dX12_isAt_12 : decode cX12_isAt 12 = .ok (.ldc 99, 2) := by decide +kernel
theorem dX12_isAt_14 : decode cX12_isAt 14 = .ok (.aload_n 0, 1) := by decide +kernel
theorem dX12_isAt_15 : decode cX12_isAt 15 = .ok (.getfield 62, 3) := by decide +kernel
theorem dX12_isAt_18 : decode cX12_isAt 18 = .ok (.iload_n 1, 1) := by decide +kernel
theorem dX12_isAt_19 : decode cX12_isAt 19 = .ok (.iaload, 1) := by decide +kernel
theorem dX12_isAt_20 : decode cX12_isAt 20 = .ok (.iload_n 3, 1) := by decide +kernel
theorem dX12_isAt_21 : decode cX12_isAt 21 = .ok (.iadd, 1) := by decide +kernel
theorem dX12_isAt_22 : decode cX12_isAt 22 = .ok (.invokevirtual 106, 3) := by decide +kernel
theorem dX12_isAt_25 : decode cX12_isAt 25 = .ok (.aload_n 0, 1) := by decide +kernel
theorem dX12_isAt_26 : decode cX12_isAt 26 = .ok (.getfield 14, 3) := by decide +kernel
theorem dX12_isAt_29 : decode cX12_isAt 29 = .ok (.iload_n 2, 1) := by decide +kernel
theorem dX12_isAt_30 : decode cX12_isAt 30 = .ok (.iload_n 3, 1) := by decide +kernel
theorem dX12_isAt_31 : decode cX12_isAt 31 = .ok (.iadd, 1) := by decide +kernel
theorem dX12_isAt_32 : decode cX12_isAt 32 = .ok (.baload, 1) := by decide +kernel
theorem dX12_isAt_33 : decode cX12_isAt 33 = .ok (.if_icmp .eq 5, 3) := by decide +kernel
theorem dX12_isAt_36 : decode cX12_isAt 36 = .ok (.iconst 0, 1) := by decide +kernel
theorem dX12_isAt_37 : decode cX12_isAt 37 = .ok (.ireturn, 1) := by decide +kernel
theorem dX12_isAt_38 : decode cX12_isAt 38 = .ok (.iinc 3 1, 3) := by decide +kernel
theorem dX12_isAt_41 : decode cX12_isAt 41 = .ok (.goto (-39), 3) := by decide +kernel
theorem dX12_isAt_44 : decode cX12_isAt 44 = .ok (.iconst 1, 1) := by decide +kernel
theorem dX12_isAt_45 : decode cX12_isAt 45 = .ok (.ireturn, 1) := by decide +kernel
def f_X12_isAt_2 (F : Nat) : Nat → Nat → Int32 → Int32 → Int32 → gk_S → Option (Int32 × gk_S)
  | 0, _, _, _, _, _ => none
  | n + 1, l0, l1, l2, l3, S => qk (isb S l0 9) <| qP (gP S 913 l0) fun b3 => qk (isb S b3 11) <| qk (inb l1 (gL S b3)) <| qv (aI S b3 l1) fun x10 => if x10 ≤ l3 then (some (1, S)) else qP (gP S 912 l0) fun b15 => qk (isb S b15 11) <| qk (inb l1 (gL S b15)) <| qv (aI S b15 l1) fun x22 => qc (f_J0_charAt_5068e F S 33 (x22 + l3)) fun x25 S26 => qk (isb S26 l0 9) <| qP (gP S26 901 l0) fun b31 => qk (isb S26 b31 10) <| qk (inb (l2 + l3) (gL S26 b31)) <| qv (aI S26 b31 (l2 + l3)) fun x38 => if x25 = x38 then (f_X12_isAt_2 F n l0 l1 l2 (l3 + 1) S26) else some (0, S26)
theorem e_X12_isAt_2 {X : gk_X} {F : Nat} : ∀ (n : Nat) (l0 : Nat) (l1 : Int32) (l2 : Int32) (l3 : Int32) (S : gk_S) (r : (Int32 × gk_S)), f_X12_isAt_2 F n l0 l1 l2 l3 S = some r → EvW X m_X12_isAt 5 0 0 2 [some (.ref l0), some (.int l1), some (.int l2), some (.int l3)] [] S (qRI r) := by
  intro n
  induction n with
  | zero => intro l0 l1 l2 l3 S r h0; rw [f_X12_isAt_2] at h0; cases h0
  | succ n ih =>
    intro l0 l1 l2 l3 S r h0; rw [f_X12_isAt_2] at h0
    refine ev_iload_n (pc := 2) (i := 3) rfl rfl dX12_isAt_2 ?_
    refine ev_aload_n (pc := 3) (i := 0) rfl rfl rfl dX12_isAt_3 ?_
    obtain ⟨g1, h2⟩ := qk_el h0; clear h0
    obtain ⟨b3, e4, h5⟩ := qP_el h2; clear h2
    refine xv_getP (pc := 4) fn_913 (isb_el g1) e4 gw_1153 dX12_isAt_4 ?_
    refine ev_iload_n (pc := 7) (i := 1) rfl rfl dX12_isAt_7 ?_
    obtain ⟨g6, h7⟩ := qk_el h5; clear h5
    obtain ⟨g8, h9⟩ := qk_el h7; clear h7
    obtain ⟨x10, e11, h12⟩ := qv_el h9; clear h9
    refine yv_iald (pc := 8) (isb_el g6) (inb_el g8) e11 dX12_isAt_8 ?_
    refine ev_ic_ge (pc := 9) (tgt := 44) (by decide) dX12_isAt_9 (fun c13 => ?_) (fun c13 => ?_)
    · replace h12 := qi_t h12 c13
      refine ev_iconst (pc := 44) (v := 1) (by decide) dX12_isAt_44 ?_
      exact ev_ireturn (pc := 45) rfl rfl (by cases h12; rfl) dX12_isAt_45
    · replace h12 := qi_f h12 c13
      refine ev_ldcS (pc := 12) (i := 33) (by decide) rfl rfl dX12_isAt_12 ?_
      refine ev_aload_n (pc := 14) (i := 0) rfl rfl rfl dX12_isAt_14 ?_
      obtain ⟨b15, e16, h17⟩ := qP_el h12; clear h12
      refine xv_getP (pc := 15) fn_912 (isb_el g1) e16 gw_1152 dX12_isAt_15 ?_
      refine ev_iload_n (pc := 18) (i := 1) rfl rfl dX12_isAt_18 ?_
      obtain ⟨g18, h19⟩ := qk_el h17; clear h17
      obtain ⟨g20, h21⟩ := qk_el h19; clear h19
      obtain ⟨x22, e23, h24⟩ := qv_el h21; clear h21
      refine yv_iald (pc := 19) (isb_el g18) (inb_el g20) e23 dX12_isAt_19 ?_
      refine ev_iload_n (pc := 20) (i := 3) rfl rfl dX12_isAt_20 ?_
      refine ev_iadd (pc := 21)  dX12_isAt_21 ?_
      obtain ⟨x25, S26, e27, h28⟩ := qc_el h24; clear h24
      refine xv_callT (pc := 22) (st := []) (as := [.int (x22 + l3)]) (v := (some (.int x25))) (S' := S26) (i9 := 33) ok_J0_charAt_5068e (e_J0_charAt_5068e e27) (by decide) (by decide) rfl (Nat.le_of_ble_eq_true rfl) rfl gw_1139 dX12_isAt_22 ?_
      refine ev_aload_n (pc := 25) (i := 0) rfl rfl rfl dX12_isAt_25 ?_
      obtain ⟨g29, h30⟩ := qk_el h28; clear h28
      obtain ⟨b31, e32, h33⟩ := qP_el h30; clear h30
      refine xv_getP (pc := 26) fn_901 (isb_el g29) e32 gw_1141 dX12_isAt_26 ?_
      refine ev_iload_n (pc := 29) (i := 2) rfl rfl dX12_isAt_29 ?_
      refine ev_iload_n (pc := 30) (i := 3) rfl rfl dX12_isAt_30 ?_
      refine ev_iadd (pc := 31)  dX12_isAt_31 ?_
      obtain ⟨g34, h35⟩ := qk_el h33; clear h33
      obtain ⟨g36, h37⟩ := qk_el h35; clear h35
      obtain ⟨x38, e39, h40⟩ := qv_el h37; clear h37
      refine yv_bald (pc := 32) (isb_el g34) (inb_el g36) e39 dX12_isAt_32 ?_
      refine ev_ic_eq (pc := 33) (tgt := 38) (by decide) dX12_isAt_33 (fun c41 => ?_) (fun c41 => ?_)
      · replace h40 := qi_t h40 c41
        refine ev_iinc (pc := 38) (L' := [some (.ref l0), some (.int l1), some (.int l2), some (.int (l3 + 1))]) (i := 3) (v := (l3 + 1)) rfl rfl (by decide) rfl rfl dX12_isAt_38 ?_
        refine ev_goto (pc := 41) (tgt := 2) (by decide) dX12_isAt_41 ?_
        exact (ev_weak (qL_s (qL_s (qL_s (qL_s qL_nil)))) (ih _ _ _ _ _ _ h40))
      · replace h40 := qi_f h40 c41
        refine ev_iconst (pc := 36) (v := 0) (by decide) dX12_isAt_36 ?_
        exact ev_ireturn (pc := 37) rfl rfl (by cases h40; rfl) dX12_isAt_37
def f_X12_isAt (F : Nat) (S : gk_S) (a : Nat) (p0 : Int32) (p1 : Int32) : Option (Int32 × gk_S) := f_X12_isAt_2 F F a p0 p1 0 S
theorem e_X12_isAt {X : gk_X} {F : Nat} {S : gk_S} {a : Nat} {p0 : Int32} {p1 : Int32} {r : (Int32 × gk_S)} (h0 : f_X12_isAt F S a p0 p1 = some r) : EvM X m_X12_isAt 5 0 0 [.ref a, .int p0, .int p1] S (qRI r) := by
  unfold f_X12_isAt at h0
  refine ev_method (by decide +kernel) rfl rfl (Nat.le_of_ble_eq_true rfl) ?_
  show EvW X m_X12_isAt 5 0 0 0 [some (.ref a), some (.int p0), some (.int p1), none] [] S _
  refine ev_iconst (pc := 0) (v := 0) (by decide) dX12_isAt_0 ?_
  refine ev_istore_n (pc := 1) (L' := [some (.ref a), some (.int p0), some (.int p1), some (.int 0)]) (i := 3) rfl (by decide) rfl rfl dX12_isAt_1 ?_
  exact ev_weak (qL_s (qL_s (qL_s (qL_s qL_nil)))) (e_X12_isAt_2 F _ _ _ _ _ _ h0)
theorem dX12_readWord_0 : decode cX12_readWord 0 = .ok (.iconst 1, 1) := by decide +kernel
theorem dX12_readWord_1 : decode cX12_readWord 1 = .ok (.istore_n 1, 1) := by decide +kernel
theorem dX12_readWord_2 : decode cX12_readWord 2 = .ok (.aload_n 0, 1) := by decide +kernel
theorem dX12_readWord_3 : decode cX12_readWord 3 = .ok (.getfield 110, 3) := by decide +kernel
theorem dX12_readWord_6 : decode cX12_readWord 6 = .ok (.istore_n 2, 1) := by decide +kernel
theorem dX12_readWord_7 : decode cX12_readWord 7 = .ok (.aload_n 0, 1) := by decide +kernel
theorem dX12_readWord_8 : decode cX12_readWord 8 = .ok (.aload_n 0, 1) := by decide +kernel
theorem dX12_readWord_9 : decode cX12_readWord 9 = .ok (.getfield 110, 3) := by decide +kernel
theorem dX12_readWord_12 : decode cX12_readWord 12 = .ok (.invokevirtual 113, 3) := by decide +kernel
theorem dX12_readWord_15 : decode cX12_readWord 15 = .ok (.invokestatic 123, 3) := by decide +kernel
theorem dX12_readWord_18 : decode cX12_readWord 18 = .ok (.ifCond .ne 17, 3) := by decide +kernel
theorem dX12_readWord_21 : decode cX12_readWord 21 = .ok (.aload_n 0, 1) := by decide +kernel
theorem dX12_readWord_22 : decode cX12_readWord 22 = .ok (.aload_n 0, 1) := by decide +kernel
theorem dX12_readWord_23 : decode cX12_readWord 23 = .ok (.getfield 110, 3) := by decide +kernel
theorem dX12_readWord_26 : decode cX12_readWord 26 = .ok (.invokevirtual 113, 3) := by decide +kernel
theorem dX12_readWord_29 : decode cX12_readWord 29 = .ok (.invokestatic 130, 3) := by decide +kernel
theorem dX12_readWord_32 : decode cX12_readWord 32 = .ok (.ifCond .eq 40, 3) := by decide +kernel
theorem dX12_readWord_35 : decode cX12_readWord 35 = .ok (.iload_n 1, 1) := by decide +kernel
theorem dX12_readWord_36 : decode cX12_readWord 36 = .ok (.ifCond .eq 21, 3) := by decide +kernel
theorem dX12_readWord_39 : decode cX12_readWord 39 = .ok (.aload_n 0, 1) := by decide +kernel
theorem dX12_readWord_40 : decode cX12_readWord 40 = .ok (.aload_n 0, 1) := by decide +kernel
theorem dX12_readWord_41 : decode cX12_readWord 41 = .ok (.getfield 110, 3) := by decide +kernel
theorem dX12_readWord_44 : decode cX12_readWord 44 = .ok (.invokevirtual 113, 3) := by decide +kernel
theorem dX12_readWord_47 : decode cX12_readWord 47 = .ok (.invokestatic 123, 3) := by decide +kernel
theorem dX12_readWord_50 : decode cX12_readWord 50 = .ok (.ifCond .eq 7, 3) := by decide +kernel
theorem dX12_readWord_53 : decode cX12_readWord 53 = .ok (.iconst 1, 1) := by decide +kernel
theorem dX12_readWord_54 : decode cX12_readWord 54 = .ok (.goto 4, 3) := by decide +kernel
theorem dX12_readWord_57 : decode cX12_readWord 57 = .ok (.iconst 0, 1) := by decide +kernel
theorem dX12_readWord_58 : decode cX12_readWord 58 = .ok (.istore_n 1, 1) := by decide +kernel
theorem dX12_readWord_59 : decode cX12_readWord 59 = .ok (.aload_n 0, 1) := by decide +kernel
theorem dX12_readWord_60 : decode cX12_readWord 60 = .ok (.dup, 1) := by decide +kernel
theorem dX12_readWord_61 : decode cX12_readWord 61 = .ok (.getfield 110, 3) := by decide +kernel
theorem dX12_readWord_64 : decode cX12_readWord 64 = .ok (.iconst 1, 1) := by decide +kernel
theorem dX12_readWord_65 : decode cX12_readWord 65 = .ok (.iadd, 1) := by decide +kernel
theorem dX12_readWord_66 : decode cX12_readWord 66 = .ok (.putfield 110, 3) := by decide +kernel
theorem dX12_readWord_69 : decode cX12_readWord 69 = .ok (.goto (-62), 3) := by decide +kernel
theorem dX12_readWord_72 : decode cX12_readWord 72 = .ok (.aload_n 0, 1) := by decide +kernel
theorem dX12_readWord_73 : decode cX12_readWord 73 = .ok (.iload_n 1, 1) := by decide +kernel
theorem dX12_readWord_74 : decode cX12_readWord 74 = .ok (.ifCond .eq 18, 3) := by decide +kernel
theorem dX12_readWord_77 : decode cX12_readWord 77 = .ok (.aload_n 0, 1) := by decide +kernel
theorem dX12_readWord_78 : decode cX12_readWord 78 = .ok (.getfield 110, 3) := by decide +kernel
theorem dX12_readWord_81 : decode cX12_readWord 81 = .ok (.iload_n 2, 1) := by decide +kernel
theorem dX12_readWord_82 : decode cX12_readWord 82 = .ok (.isub, 1) := by decide +kernel
theorem dX12_readWord_83 : decode cX12_readWord 83 = .ok (.bipush 11, 2) := by decide +kernel
theorem dX12_readWord_85 : decode cX12_readWord 85 = .ok (.if_icmp .gt 7, 3) := by decide +kernel
theorem dX12_readWord_88 : decode cX12_readWord 88 = .ok (.iconst 1, 1) := by decide +kernel
theorem dX12_readWord_89 : decode cX12_readWord 89 = .ok (.goto 4, 3) := by decide +kernel
theorem dX12_readWord_92 : decode cX12_readWord 92 = .ok (.iconst 5, 1) := by decide +kernel
theorem dX12_readWord_93 : decode cX12_readWord 93 = .ok (.putfield 120, 3) := by decide +kernel
theorem dX12_readWord_96 : decode cX12_readWord 96 = .ok (.aload_n 0, 1) := by decide +kernel
theorem dX12_readWord_97 : decode cX12_readWord 97 = .ok (.iconst (-1), 1) := by decide +kernel
theorem dX12_readWord_98 : decode cX12_readWord 98 = .ok (.putfield 136, 3) := by decide +kernel
theorem dX12_readWord_101 : decode cX12_readWord 101 = .ok (.iconst 0, 1) := by decide +kernel
theorem dX12_readWord_102 : decode cX12_readWord 102 = .ok (.istore_n 3, 1) := by decide +kernel
theorem dX12_readWord_103 : decode cX12_readWord 103 = .ok (.iload_n 3, 1) := by decide +kernel
theorem dX12_readWord_104 : decode cX12_readWord 104 = .ok (.bipush 18, 2) := by decide +kernel
theorem dX12_readWord_106 : decode cX12_readWord 106 = .ok (.if_icmp .ge 38, 3) := by decide +kernel
theorem dX12_readWord_109 : decode cX12_readWord 109 = .ok (.aload_n 0, 1) := by decide +kernel
theorem dX12_readWord_110 : decode cX12_readWord 110 = .ok (.getfield 65, 3) := by decide +kernel
theorem dX12_readWord_113 : decode cX12_readWord 113 = .ok (.iload_n 3, 1) := by decide +kernel
theorem dX12_readWord_114 : decode cX12_readWord 114 = .ok (.iaload, 1) := by decide +kernel
theorem dX12_readWord_115 : decode cX12_readWord 115 = .ok (.aload_n 0, 1) := by decide +kernel
theorem dX12_readWord_116 : decode cX12_readWord 116 = .ok (.getfield 110, 3) := by decide +kernel
theorem dX12_readWord_119 : decode cX12_readWord 119 = .ok (.iload_n 2, 1) := by decide +kernel
theorem dX12_readWord_120 : decode cX12_readWord 120 = .ok (.isub, 1) := by decide +kernel
theorem dX12_readWord_121 : decode cX12_readWord 121 = .ok (.if_icmp .ne 17, 3) := by decide +kernel
theorem dX12_readWord_124 : decode cX12_readWord 124 = .ok (.aload_n 0, 1) := by decide +kernel
theorem dX12_readWord_125 : decode cX12_readWord 125 = .ok (.iload_n 3, 1) := by decide +kernel
theorem dX12_readWord_126 : decode cX12_readWord 126 = .ok (.iload_n 2, 1) := by decide +kernel
theorem dX12_readWord_127 : decode cX12_readWord 127 = .ok (.invokevirtual 139, 3) := by decide +kernel
theorem dX12_readWord_130 : decode cX12_readWord 130 = .ok (.ifCond .eq 8, 3) := by decide +kernel
theorem dX12_readWord_133 : decode cX12_readWord 133 = .ok (.aload_n 0, 1) := by decide +kernel
theorem dX12_readWord_134 : decode cX12_readWord 134 = .ok (.iload_n 3, 1) := by decide +kernel
theorem dX12_readWord_135 : decode cX12_readWord 135 = .ok (.putfield 136, 3) := by decide +kernel
theorem dX12_readWord_138 : decode cX12_readWord 138 = .ok (.iinc 3 1, 3) := by decide +kernel
theorem dX12_readWord_141 : decode cX12_readWord 141 = .ok (.goto (-38), 3) := by decide +kernel
theorem dX12_readWord_144 : decode cX12_readWord 144 = .ok (.return_, 1) := by decide +kernel
def f_X12_readWord_58 (F : Nat) (k7 : Nat → Int32 → Int32 → gk_S → Option (Unit × gk_S)) (l0 : Nat) (l2 : Int32) (s0 : Int32) (S : gk_S) : Option (Unit × gk_S) := qk (isb S l0 9) <| qv (gI S 904 l0) fun x25 => qv (sI S 904 l0 (x25 + 1)) fun S28 => k7 l0 s0 l2 S28
theorem e_X12_readWord_58 {X : gk_X} {F : Nat} {k7 : Nat → Int32 → Int32 → gk_S → Option (Unit × gk_S)} (hk7 : ∀ (l0 : Nat) (l1 : Int32) (l2 : Int32) (S : gk_S) (r : (Unit × gk_S)), k7 l0 l1 l2 S = some r → EvW X m_X12_readWord 6 0 0 7 [some (.ref l0), some (.int l1), some (.int l2), none] [] S (qRU r)) {l0 : Nat} {l2 : Int32} {s0 : Int32} {S : gk_S} {r : (Unit × gk_S)} (h0 : f_X12_readWord_58 F k7 l0 l2 s0 S = some r) : EvW X m_X12_readWord 6 0 0 58 [some (.ref l0), none, some (.int l2), none] [.int s0] S (qRU r) := by
  unfold f_X12_readWord_58 at h0
  refine ev_istore_n (pc := 58) (L' := [some (.ref l0), some (.int s0), some (.int l2), none]) (i := 1) rfl (by decide) rfl rfl dX12_readWord_58 ?_
  refine ev_aload_n (pc := 59) (i := 0) rfl rfl rfl dX12_readWord_59 ?_
  refine ev_dup (pc := 60) (.inr rfl) dX12_readWord_60 ?_
  obtain ⟨g23, h24⟩ := qk_el h0; clear h0
  obtain ⟨x25, e26, h27⟩ := qv_el h24; clear h24
  refine xv_getIv (pc := 61) fn_904 (isb_el g23) e26 gw_1144 dX12_readWord_61 ?_
  refine ev_iconst (pc := 64) (v := 1) (by decide) dX12_readWord_64 ?_
  refine ev_iadd (pc := 65)  dX12_readWord_65 ?_
  obtain ⟨S28, e29, h30⟩ := qv_el h27; clear h27
  refine yv_putI (pc := 66) fn_904 ⟨rfl, rfl⟩ (isb_el g23) e29 gw_1144 dX12_readWord_66 ?_
  refine ev_goto (pc := 69) (tgt := 7) (by decide) dX12_readWord_69 ?_
  exact ev_weak (qL_s (qL_s (qL_s (qL_n qL_nil)))) (hk7 _ _ _ _ _ h30)
def f_X12_readWord_35 (F : Nat) (k7 : Nat → Int32 → Int32 → gk_S → Option (Unit × gk_S)) (l0 : Nat) (l1 : Int32) (l2 : Int32) (S : gk_S) : Option (Unit × gk_S) := if l1 = (0 : Int32) then (f_X12_readWord_58 F k7 l0 l2 0 S) else qk (isb S l0 9) <| qv (gI S 904 l0) fun x33 => qc (f_X12_byteAt F S l0 x33) fun x36 S37 => qc (f_X12_isSmall F S37 x36) fun x40 S41 => if x40 = (0 : Int32) then (f_X12_readWord_58 F k7 l0 l2 0 S41) else f_X12_readWord_58 F k7 l0 l2 1 S41
theorem e_X12_readWord_35 {X : gk_X} {F : Nat} {k7 : Nat → Int32 → Int32 → gk_S → Option (Unit × gk_S)} (hk7 : ∀ (l0 : Nat) (l1 : Int32) (l2 : Int32) (S : gk_S) (r : (Unit × gk_S)), k7 l0 l1 l2 S = some r → EvW X m_X12_readWord 6 0 0 7 [some (.ref l0), some (.int l1), some (.int l2), none] [] S (qRU r)) {l0 : Nat} {l1 : Int32} {l2 : Int32} {S : gk_S} {r : (Unit × gk_S)} (h0 : f_X12_readWord_35 F k7 l0 l1 l2 S = some r) : EvW X m_X12_readWord 6 0 0 35 [some (.ref l0), some (.int l1), some (.int l2), none] [] S (qRU r) := by
  unfold f_X12_readWord_35 at h0
  refine ev_iload_n (pc := 35) (i := 1) rfl rfl dX12_readWord_35 ?_
  refine ev_if_eq (pc := 36) (tgt := 57) (by decide) dX12_readWord_36 (fun c21 => ?_) (fun c21 => ?_)
  · replace h0 := qi_t h0 c21
    refine ev_iconst (pc := 57) (v := 0) (by decide) dX12_readWord_57 ?_
    exact ev_weak (qL_s (qL_n (qL_s (qL_n qL_nil)))) (e_X12_readWord_58 hk7 h0)
  · replace h0 := qi_f h0 c21
    refine ev_aload_n (pc := 39) (i := 0) rfl rfl rfl dX12_readWord_39 ?_
    refine ev_aload_n (pc := 40) (i := 0) rfl rfl rfl dX12_readWord_40 ?_
    obtain ⟨g31, h32⟩ := qk_el h0; clear h0
    obtain ⟨x33, e34, h35⟩ := qv_el h32; clear h32
    refine xv_getIv (pc := 41) fn_904 (isb_el g31) e34 gw_1144 dX12_readWord_41 ?_
    obtain ⟨x36, S37, e38, h39⟩ := qc_el h35; clear h35
    refine xv_callV (pc := 44) (st := []) (as := [.int x33]) (v := (some (.int x36))) (S' := S37) ok_X12_byteAt (e_X12_byteAt e38) (isb_el g31) (by decide) rfl (Nat.le_of_ble_eq_true rfl) rfl gw_1280 dX12_readWord_44 ?_
    obtain ⟨x40, S41, e42, h43⟩ := qc_el h39; clear h39
    refine xv_callS (pc := 47) (st := []) (as := [.int x36]) (v := (some (.int x40))) (S' := S41) ok_X12_isSmall (e_X12_isSmall e42) (by decide) rfl (Nat.le_of_ble_eq_true rfl) rfl gw_1284 dX12_readWord_47 ?_
    refine ev_if_eq (pc := 50) (tgt := 57) (by decide) dX12_readWord_50 (fun c44 => ?_) (fun c44 => ?_)
    · replace h43 := qi_t h43 c44
      refine ev_iconst (pc := 57) (v := 0) (by decide) dX12_readWord_57 ?_
      exact ev_weak (qL_s (qL_n (qL_s (qL_n qL_nil)))) (e_X12_readWord_58 hk7 h43)
    · replace h43 := qi_f h43 c44
      refine ev_iconst (pc := 53) (v := 1) (by decide) dX12_readWord_53 ?_
      refine ev_goto (pc := 54) (tgt := 58) (by decide) dX12_readWord_54 ?_
      exact ev_weak (qL_s (qL_n (qL_s (qL_n qL_nil)))) (e_X12_readWord_58 hk7 h43)
def f_X12_readWord_103 (F : Nat) : Nat → Nat → Int32 → Int32 → gk_S → Option (Unit × gk_S)
  | 0, _, _, _, _ => none
  | n + 1, l0, l2, l3, S => if (18 : Int32) ≤ l3 then (some ((), S)) else qk (isb S l0 9) <| qP (gP S 913 l0) fun b77 => qk (isb S b77 11) <| qk (inb l3 (gL S b77)) <| qv (aI S b77 l3) fun x84 => qv (gI S 904 l0) fun x87 => if x84 = (x87 - l2) then (qc (f_X12_isAt F S l0 l3 l2) fun x92 S93 => if x92 = (0 : Int32) then (f_X12_readWord_103 F n l0 l2 (l3 + 1) S93) else qk (isb S93 l0 9) <| qv (sI S93 916 l0 l3) fun S100 => f_X12_readWord_103 F n l0 l2 (l3 + 1) S100) else f_X12_readWord_103 F n l0 l2 (l3 + 1) S
theorem e_X12_readWord_103 {X : gk_X} {F : Nat} : ∀ (n : Nat) (l0 : Nat) (l2 : Int32) (l3 : Int32) (S : gk_S) (r : (Unit × gk_S)), f_X12_readWord_103 F n l0 l2 l3 S = some r → EvW X m_X12_readWord 6 0 0 103 [some (.ref l0), none, some (.int l2), some (.int l3)] [] S (qRU r) := by
  intro n
  induction n with
  | zero => intro l0 l2 l3 S r h0; rw [f_X12_readWord_103] at h0; cases h0
  | succ n ih =>
    intro l0 l2 l3 S r h0; rw [f_X12_readWord_103] at h0
    refine ev_iload_n (pc := 103) (i := 3) rfl rfl dX12_readWord_103 ?_
    refine ev_bipush (pc := 104) (v := 18) (by decide) dX12_readWord_104 ?_
    refine ev_ic_ge (pc := 106) (tgt := 144) (by decide) dX12_readWord_106 (fun c73 => ?_) (fun c73 => ?_)
    · replace h0 := qi_t h0 c73
      exact ev_return (pc := 144) rfl (by cases h0; rfl) dX12_readWord_144
    · replace h0 := qi_f h0 c73
      refine ev_aload_n (pc := 109) (i := 0) rfl rfl rfl dX12_readWord_109 ?_
      obtain ⟨g75, h76⟩ := qk_el h0; clear h0
      obtain ⟨b77, e78, h79⟩ := qP_el h76; clear h76
      refine xv_getP (pc := 110) fn_913 (isb_el g75) e78 gw_1153 dX12_readWord_110 ?_
      refine ev_iload_n (pc := 113) (i := 3) rfl rfl dX12_readWord_113 ?_
      obtain ⟨g80, h81⟩ := qk_el h79; clear h79
      obtain ⟨g82, h83⟩ := qk_el h81; clear h81
      obtain ⟨x84, e85, h86⟩ := qv_el h83; clear h83
      refine yv_iald (pc := 114) (isb_el g80) (inb_el g82) e85 dX12_readWord_114 ?_
      refine ev_aload_n (pc := 115) (i := 0) rfl rfl rfl dX12_readWord_115 ?_
      obtain ⟨x87, e88, h89⟩ := qv_el h86; clear h86
      refine xv_getIv (pc := 116) fn_904 (isb_el g75) e88 gw_1144 dX12_readWord_116 ?_
      refine ev_iload_n (pc := 119) (i := 2) rfl rfl dX12_readWord_119 ?_
      refine ev_isub (pc := 120)  dX12_readWord_120 ?_
      refine ev_ic_ne (pc := 121) (tgt := 138) (by decide) dX12_readWord_121 (fun c90 => ?_) (fun c90 => ?_)
      · replace h89 := qi_f h89 c90
        refine ev_iinc (pc := 138) (L' := [some (.ref l0), none, some (.int l2), some (.int (l3 + 1))]) (i := 3) (v := (l3 + 1)) rfl rfl (by decide) rfl rfl dX12_readWord_138 ?_
        refine ev_goto (pc := 141) (tgt := 103) (by decide) dX12_readWord_141 ?_
        exact (ev_weak (qL_s (qL_n (qL_s (qL_s qL_nil)))) (ih _ _ _ _ _ h89))
      · replace h89 := qi_t h89 c90
        refine ev_aload_n (pc := 124) (i := 0) rfl rfl rfl dX12_readWord_124 ?_
        refine ev_iload_n (pc := 125) (i := 3) rfl rfl dX12_readWord_125 ?_
        refine ev_iload_n (pc := 126) (i := 2) rfl rfl dX12_readWord_126 ?_
        obtain ⟨x92, S93, e94, h95⟩ := qc_el h89; clear h89
        refine xv_callV (pc := 127) (st := []) (as := [.int l3, .int l2]) (v := (some (.int x92))) (S' := S93) ok_X12_isAt (e_X12_isAt e94) (isb_el g75) (by decide) rfl (Nat.le_of_ble_eq_true rfl) rfl gw_1294 dX12_readWord_127 ?_
        refine ev_if_eq (pc := 130) (tgt := 138) (by decide) dX12_readWord_130 (fun c96 => ?_) (fun c96 => ?_)
        · replace h95 := qi_t h95 c96
          refine ev_iinc (pc := 138) (L' := [some (.ref l0), none, some (.int l2), some (.int (l3 + 1))]) (i := 3) (v := (l3 + 1)) rfl rfl (by decide) rfl rfl dX12_readWord_138 ?_
          refine ev_goto (pc := 141) (tgt := 103) (by decide) dX12_readWord_141 ?_
          exact (ev_weak (qL_s (qL_n (qL_s (qL_s qL_nil)))) (ih _ _ _ _ _ h95))
        · replace h95 := qi_f h95 c96
          refine ev_aload_n (pc := 133) (i := 0) rfl rfl rfl dX12_readWord_133 ?_
          refine ev_iload_n (pc := 134) (i := 3) rfl rfl dX12_readWord_134 ?_
          obtain ⟨g98, h99⟩ := qk_el h95; clear h95
          obtain ⟨S100, e101, h102⟩ := qv_el h99; clear h99
          refine yv_putI (pc := 135) fn_916 ⟨rfl, rfl⟩ (isb_el g98) e101 gw_1156 dX12_readWord_135 ?_
          refine ev_iinc (pc := 138) (L' := [some (.ref l0), none, some (.int l2), some (.int (l3 + 1))]) (i := 3) (v := (l3 + 1)) rfl rfl (by decide) rfl rfl dX12_readWord_138 ?_
          refine ev_goto (pc := 141) (tgt := 103) (by decide) dX12_readWord_141 ?_
          exact (ev_weak (qL_s (qL_n (qL_s (qL_s qL_nil)))) (ih _ _ _ _ _ h102))
def f_X12_readWord_92 (F : Nat) (l0 : Nat) (l2 : Int32) (s0 : Nat) (S : gk_S) : Option (Unit × gk_S) := qk (isb S s0 9) <| qv (sI S 914 s0 5) fun S65 => qk (isb S65 l0 9) <| qv (sI S65 916 l0 (-1)) fun S70 => f_X12_readWord_103 F F l0 l2 0 S70
theorem e_X12_readWord_92 {X : gk_X} {F : Nat} {l0 : Nat} {l2 : Int32} {s0 : Nat} {S : gk_S} {r : (Unit × gk_S)} (h0 : f_X12_readWord_92 F l0 l2 s0 S = some r) : EvW X m_X12_readWord 6 0 0 92 [some (.ref l0), none, some (.int l2), none] [.ref s0] S (qRU r) := by
  unfold f_X12_readWord_92 at h0
  refine ev_iconst (pc := 92) (v := 5) (by decide) dX12_readWord_92 ?_
  obtain ⟨g63, h64⟩ := qk_el h0; clear h0
  obtain ⟨S65, e66, h67⟩ := qv_el h64; clear h64
  refine yv_putI (pc := 93) fn_914 ⟨rfl, rfl⟩ (isb_el g63) e66 gw_1154 dX12_readWord_93 ?_
  refine ev_aload_n (pc := 96) (i := 0) rfl rfl rfl dX12_readWord_96 ?_
  refine ev_iconst (pc := 97) (v := -1) (by decide) dX12_readWord_97 ?_
  obtain ⟨g68, h69⟩ := qk_el h67; clear h67
  obtain ⟨S70, e71, h72⟩ := qv_el h69; clear h69
  refine yv_putI (pc := 98) fn_916 ⟨rfl, rfl⟩ (isb_el g68) e71 gw_1156 dX12_readWord_98 ?_
  refine ev_iconst (pc := 101) (v := 0) (by decide) dX12_readWord_101 ?_
  refine ev_istore_n (pc := 102) (L' := [some (.ref l0), none, some (.int l2), some (.int 0)]) (i := 3) rfl (by decide) rfl rfl dX12_readWord_102 ?_
  exact ev_weak (qL_s (qL_n (qL_s (qL_s qL_nil)))) (e_X12_readWord_103 F _ _ _ _ _ h72)
def f_X12_readWord_7 (F : Nat) : Nat → Nat → Int32 → Int32 → gk_S → Option (Unit × gk_S)
  | 0, _, _, _, _ => none
  | n + 1, l0, l1, l2, S => qk (isb S l0 9) <| qv (gI S 904 l0) fun x8 => qc (f_X12_byteAt F S l0 x8) fun x11 S12 => qc (f_X12_isSmall F S12 x11) fun x15 S16 => if x15 = (0 : Int32) then (qk (isb S16 l0 9) <| qv (gI S16 904 l0) fun x48 => qc (f_X12_byteAt F S16 l0 x48) fun x51 S52 => qc (f_X12_isDigit F S52 x51) fun x55 S56 => if x55 = (0 : Int32) then (if l1 = (0 : Int32) then (f_X12_readWord_92 F l0 l2 l0 S56) else qk (isb S56 l0 9) <| qv (gI S56 904 l0) fun x105 => if (11 : Int32) < (x105 - l2) then (f_X12_readWord_92 F l0 l2 l0 S56) else qv (sI S56 914 l0 1) fun S110 => qv (sI S110 916 l0 (-1)) fun S113 => f_X12_readWord_103 F F l0 l2 0 S113) else f_X12_readWord_35 F (f_X12_readWord_7 F n) l0 l1 l2 S56) else f_X12_readWord_35 F (f_X12_readWord_7 F n) l0 l1 l2 S16
theorem e_X12_readWord_7 {X : gk_X} {F : Nat} : ∀ (n : Nat) (l0 : Nat) (l1 : Int32) (l2 : Int32) (S : gk_S) (r : (Unit × gk_S)), f_X12_readWord_7 F n l0 l1 l2 S = some r → EvW X m_X12_readWord 6 0 0 7 [some (.ref l0), some (.int l1), some (.int l2), none] [] S (qRU r) := by
  intro n
  induction n with
  | zero => intro l0 l1 l2 S r h0; rw [f_X12_readWord_7] at h0; cases h0
  | succ n ih =>
    intro l0 l1 l2 S r h0; rw [f_X12_readWord_7] at h0
    refine ev_aload_n (pc := 7) (i := 0) rfl rfl rfl dX12_readWord_7 ?_
    refine ev_aload_n (pc := 8) (i := 0) rfl rfl rfl dX12_readWord_8 ?_
    obtain ⟨g6, h7⟩ := qk_el h0; clear h0
    obtain ⟨x8, e9, h10⟩ := qv_el h7; clear h7
    refine xv_getIv (pc := 9) fn_904 (isb_el g6) e9 gw_1144 dX12_readWord_9 ?_
    obtain ⟨x11, S12, e13, h14⟩ := qc_el h10; clear h10
    refine xv_callV (pc := 12) (st := []) (as := [.int x8]) (v := (some (.int x11))) (S' := S12) ok_X12_byteAt (e_X12_byteAt e13) (isb_el g6) (by decide) rfl (Nat.le_of_ble_eq_true rfl) rfl gw_1280 dX12_readWord_12 ?_
    obtain ⟨x15, S16, e17, h18⟩ := qc_el h14; clear h14
    refine xv_callS (pc := 15) (st := []) (as := [.int x11]) (v := (some (.int x15))) (S' := S16) ok_X12_isSmall (e_X12_isSmall e17) (by decide) rfl (Nat.le_of_ble_eq_true rfl) rfl gw_1284 dX12_readWord_15 ?_
    refine ev_if_ne (pc := 18) (tgt := 35) (by decide) dX12_readWord_18 (fun c19 => ?_) (fun c19 => ?_)
    · replace h18 := qi_f h18 c19
      exact ev_weak (qL_s (qL_s (qL_s (qL_n qL_nil)))) (e_X12_readWord_35 ih h18)
    · replace h18 := qi_t h18 c19
      refine ev_aload_n (pc := 21) (i := 0) rfl rfl rfl dX12_readWord_21 ?_
      refine ev_aload_n (pc := 22) (i := 0) rfl rfl rfl dX12_readWord_22 ?_
      obtain ⟨g46, h47⟩ := qk_el h18; clear h18
      obtain ⟨x48, e49, h50⟩ := qv_el h47; clear h47
      refine xv_getIv (pc := 23) fn_904 (isb_el g46) e49 gw_1144 dX12_readWord_23 ?_
      obtain ⟨x51, S52, e53, h54⟩ := qc_el h50; clear h50
      refine xv_callV (pc := 26) (st := []) (as := [.int x48]) (v := (some (.int x51))) (S' := S52) ok_X12_byteAt (e_X12_byteAt e53) (isb_el g46) (by decide) rfl (Nat.le_of_ble_eq_true rfl) rfl gw_1280 dX12_readWord_26 ?_
      obtain ⟨x55, S56, e57, h58⟩ := qc_el h54; clear h54
      refine xv_callS (pc := 29) (st := []) (as := [.int x51]) (v := (some (.int x55))) (S' := S56) ok_X12_isDigit (e_X12_isDigit e57) (by decide) rfl (Nat.le_of_ble_eq_true rfl) rfl gw_1291 dX12_readWord_29 ?_
      refine ev_if_eq (pc := 32) (tgt := 72) (by decide) dX12_readWord_32 (fun c59 => ?_) (fun c59 => ?_)
      · replace h58 := qi_t h58 c59
        refine ev_aload_n (pc := 72) (i := 0) rfl rfl rfl dX12_readWord_72 ?_
        refine ev_iload_n (pc := 73) (i := 1) rfl rfl dX12_readWord_73 ?_
        refine ev_if_eq (pc := 74) (tgt := 92) (by decide) dX12_readWord_74 (fun c61 => ?_) (fun c61 => ?_)
        · replace h58 := qi_t h58 c61
          exact ev_weak (qL_s (qL_n (qL_s (qL_n qL_nil)))) (e_X12_readWord_92 h58)
        · replace h58 := qi_f h58 c61
          refine ev_aload_n (pc := 77) (i := 0) rfl rfl rfl dX12_readWord_77 ?_
          obtain ⟨g103, h104⟩ := qk_el h58; clear h58
          obtain ⟨x105, e106, h107⟩ := qv_el h104; clear h104
          refine xv_getIv (pc := 78) fn_904 (isb_el g103) e106 gw_1144 dX12_readWord_78 ?_
          refine ev_iload_n (pc := 81) (i := 2) rfl rfl dX12_readWord_81 ?_
          refine ev_isub (pc := 82)  dX12_readWord_82 ?_
          refine ev_bipush (pc := 83) (v := 11) (by decide) dX12_readWord_83 ?_
          refine ev_ic_gt (pc := 85) (tgt := 92) (by decide) dX12_readWord_85 (fun c108 => ?_) (fun c108 => ?_)
          · replace h107 := qi_t h107 c108
            exact ev_weak (qL_s (qL_n (qL_s (qL_n qL_nil)))) (e_X12_readWord_92 h107)
          · replace h107 := qi_f h107 c108
            refine ev_iconst (pc := 88) (v := 1) (by decide) dX12_readWord_88 ?_
            refine ev_goto (pc := 89) (tgt := 93) (by decide) dX12_readWord_89 ?_
            obtain ⟨S110, e111, h112⟩ := qv_el h107; clear h107
            refine yv_putI (pc := 93) fn_914 ⟨rfl, rfl⟩ (isb_el g103) e111 gw_1154 dX12_readWord_93 ?_
            refine ev_aload_n (pc := 96) (i := 0) rfl rfl rfl dX12_readWord_96 ?_
            refine ev_iconst (pc := 97) (v := -1) (by decide) dX12_readWord_97 ?_
            obtain ⟨S113, e114, h115⟩ := qv_el h112; clear h112
            refine yv_putI (pc := 98) fn_916 ⟨rfl, rfl⟩ (is_sI (isb_el g103) e111) e114 gw_1156 dX12_readWord_98 ?_
            refine ev_iconst (pc := 101) (v := 0) (by decide) dX12_readWord_101 ?_
            refine ev_istore_n (pc := 102) (L' := [some (.ref l0), some (.int l1), some (.int l2), some (.int 0)]) (i := 3) rfl (by decide) rfl rfl dX12_readWord_102 ?_
            exact ev_weak (qL_s (qL_n (qL_s (qL_s qL_nil)))) (e_X12_readWord_103 F _ _ _ _ _ h115)
      · replace h58 := qi_f h58 c59
        exact ev_weak (qL_s (qL_s (qL_s (qL_n qL_nil)))) (e_X12_readWord_35 ih h58)
def f_X12_readWord (F : Nat) (S : gk_S) (a : Nat) : Option (Unit × gk_S) := qk (isb S a 9) <| qv (gI S 904 a) fun x3 => f_X12_readWord_7 F F a 1 x3 S
theorem e_X12_readWord {X : gk_X} {F : Nat} {S : gk_S} {a : Nat} {r : (Unit × gk_S)} (h0 : f_X12_readWord F S a = some r) : EvM X m_X12_readWord 6 0 0 [.ref a] S (qRU r) := by
  unfold f_X12_readWord at h0
  refine ev_method (by decide +kernel) rfl rfl (Nat.le_of_ble_eq_true rfl) ?_
  show EvW X m_X12_readWord 6 0 0 0 [some (.ref a), none, none, none] [] S _
  refine ev_iconst (pc := 0) (v := 1) (by decide) dX12_readWord_0 ?_
  refine ev_istore_n (pc := 1) (L' := [some (.ref a), some (.int 1), none, none]) (i := 1) rfl (by decide) rfl rfl dX12_readWord_1 ?_
  refine ev_aload_n (pc := 2) (i := 0) rfl rfl rfl dX12_readWord_2 ?_
  obtain ⟨g1, h2⟩ := qk_el h0; clear h0
  obtain ⟨x3, e4, h5⟩ := qv_el h2; clear h2
  refine xv_getIv (pc := 3) fn_904 (isb_el g1) e4 gw_1144 dX12_readWord_3 ?_
  refine ev_istore_n (pc := 6) (L' := [some (.ref a), some (.int 1), some (.int x3), none]) (i := 2) rfl (by decide) rfl rfl dX12_readWord_6 ?_
  exact ev_weak (qL_s (qL_s (qL_s (qL_n qL_nil)))) (e_X12_readWord_7 F _ _ _ _ _ h5)
