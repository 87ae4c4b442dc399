theorem dX11_init_0 : decode cX11_init 0 = .ok (.aload_n 0, 1) := by decide +kernel
theorem dX11_init_1 : decode cX11_init 1 = .ok (.invokespecial 1, 3) := by decide +kernel
theorem dX11_init_4 : decode cX11_init 4 = .ok (.aload_n 0, 1) := by decide +kernel
theorem dX11_init_5 : decode cX11_init 5 = .ok (.new 7, 3) := by decide +kernel
theorem dX11_init_8 : decode cX11_init 8 = .ok (.dup, 1) := by decide +kernel
theorem dX11_init_9 : decode cX11_init 9 = .ok (.sipush 2100, 3) := by decide +kernel
theorem dX11_init_12 : decode cX11_init 12 = .ok (.invokespecial 11, 3) := by decide +kernel
theorem dX11_init_15 : decode cX11_init 15 = .ok (.putfield 14, 3) := by decide +kernel
theorem dX11_init_18 : decode cX11_init 18 = .ok (.aload_n 0, 1) := by decide +kernel
theorem dX11_init_19 : decode cX11_init 19 = .ok (.new 7, 3) := by decide +kernel
theorem dX11_init_22 : decode cX11_init 22 = .ok (.dup, 1) := by decide +kernel
theorem dX11_init_23 : decode cX11_init 23 = .ok (.sipush 3000, 3) := by decide +kernel
theorem dX11_init_26 : decode cX11_init 26 = .ok (.invokespecial 11, 3) := by decide +kernel
theorem dX11_init_29 : decode cX11_init 29 = .ok (.putfield 18, 3) := by decide +kernel
theorem dX11_init_32 : decode cX11_init 32 = .ok (.aload_n 0, 1) := by decide +kernel
theorem dX11_init_33 : decode cX11_init 33 = .ok (.iconst 4, 1) := by decide +kernel
theorem dX11_init_34 : decode cX11_init 34 = .ok (.anewarray 21, 3) := by decide +kernel
theorem dX11_init_37 : decode cX11_init 37 = .ok (.putfield 23, 3) := by decide +kernel
theorem dX11_init_40 : decode cX11_init 40 = .ok (.iconst 0, 1) := by decide +kernel
theorem dX11_init_41 : decode cX11_init 41 = .ok (.istore_n 1, 1) := by decide +kernel
theorem dX11_init_42 : decode cX11_init 42 = .ok (.iload_n 1, 1) := by decide +kernel
theorem dX11_init_43 : decode cX11_init 43 = .ok (.iconst 4, 1) := by decide +kernel
theorem dX11_init_44 : decode cX11_init 44 = .ok (.if_icmp .ge 22, 3) := by decide +kernel
theorem dX11_init_47 : decode cX11_init 47 = .ok (.aload_n 0, 1) := by decide +kernel
theorem dX11_init_48 : decode cX11_init 48 = .ok (.getfield 23, 3) := by decide +kernel
theorem dX11_init_51 : decode cX11_init 51 = .ok (.iload_n 1, 1) := by decide +kernel
theorem dX11_init_52 : decode cX11_init 52 = .ok (.new 21, 3) := by decide +kernel
theorem dX11_init_55 : decode cX11_init 55 = .ok (.dup, 1) := by decide +kernel
theorem dX11_init_56 : decode cX11_init 56 = .ok (.invokespecial 27, 3) := by decide +kernel
theorem dX11_init_59 : decode cX11_init 59 = .ok (.aastore, 1) := by decide +kernel
theorem dX11_init_60 : decode cX11_init 60 = .ok (.iinc 1 1, 3) := by decide +kernel
theorem dX11_init_63 : decode cX11_init 63 = .ok (.goto (-21), 3) := by decide +kernel
theorem dX11_init_66 : decode cX11_init 66 = .ok (.aload_n 0, 1) := by decide +kernel
theorem dX11_init_67 : decode cX11_init 67 = .ok (.new 21, 3) := by decide +kernel
theorem dX11_init_70 : decode cX11_init 70 = .ok (.dup, 1) := by decide +kernel
theorem dX11_init_71 : decode cX11_init 71 = .ok (.invokespecial 27, 3) := by decide +kernel
theorem dX11_init_74 : decode cX11_init 74 = .ok (.putfield 28, 3) := by decide +kernel
theorem dX11_init_77 : decode cX11_init 77 = .ok (.aload_n 0, 1) := by decide +kernel
theorem dX11_init_78 : decode cX11_init 78 = .ok (.new 32, 3) := by decide +kernel
theorem dX11_init_81 : decode cX11_init 81 = .ok (.dup, 1) := by decide +kernel
theorem dX11_init_82 : decode cX11_init 82 = .ok (.aload_n 0, 1) := by decide +kernel
theorem dX11_init_83 : decode cX11_init 83 = .ok (.getfield 14, 3) := by decide +kernel
theorem dX11_init_86 : decode cX11_init 86 = .ok (.invokespecial 34, 3) := by decide +kernel
theorem dX11_init_89 : decode cX11_init 89 = .ok (.putfield 37, 3) := by decide +kernel
theorem dX11_init_92 : decode cX11_init 92 = .ok (.aload_n 0, 1) := by decide +kernel
theorem dX11_init_93 : decode cX11_init 93 = .ok (.new 41, 3) := by decide +kernel
theorem dX11_init_96 : decode cX11_init 96 = .ok (.dup, 1) := by decide +kernel
theorem dX11_init_97 : decode cX11_init 97 = .ok (.invokespecial 43, 3) := by decide +kernel
theorem dX11_init_100 : decode cX11_init 100 = .ok (.putfield 44, 3) := by decide +kernel
theorem dX11_init_103 : decode cX11_init 103 = .ok (.aload_n 0, 1) := by decide +kernel
theorem dX11_init_104 : decode cX11_init 104 = .ok (.new 48, 3) := by decide +kernel
theorem dX11_init_107 : decode cX11_init 107 = .ok (.dup, 1) := by decide +kernel
theorem dX11_init_108 : decode cX11_init 108 = .ok (.invokespecial 50, 3) := by decide +kernel
theorem dX11_init_111 : decode cX11_init 111 = .ok (.putfield 51, 3) := by decide +kernel
theorem dX11_init_114 : decode cX11_init 114 = .ok (.aload_n 0, 1) := by decide +kernel
theorem dX11_init_115 : decode cX11_init 115 = .ok (.new 55, 3) := by decide +kernel
theorem dX11_init_118 : decode cX11_init 118 = .ok (.dup, 1) := by decide +kernel
theorem dX11_init_119 : decode cX11_init 119 = .ok (.invokespecial 57, 3) := by decide +kernel
theorem dX11_init_122 : decode cX11_init 122 = .ok (.putfield 58, 3) := by decide +kernel
theorem dX11_init_125 : decode cX11_init 125 = .ok (.aload_n 0, 1) := by decide +kernel
theorem dX11_init_126 : decode cX11_init 126 = .ok (.new 55, 3) := by decide +kernel
theorem dX11_init_129 : decode cX11_init 129 = .ok (.dup, 1) := by decide +kernel
theorem dX11_init_130 : decode cX11_init 130 = .ok (.invokespecial 57, 3) := by decide +kernel
theorem dX11_init_133 : decode cX11_init 133 = .ok (.putfield 62, 3) := by decide +kernel
theorem dX11_init_136 : decode cX11_init 136 = .ok (.aload_n 0, 1) := by decide +kernel
theorem dX11_init_137 : decode cX11_init 137 = .ok (.new 55, 3) := by decide +kernel
theorem dX11_init_140 : decode cX11_init 140 = .ok (.dup, 1) := by decide +kernel
theorem dX11_init_141 : decode cX11_init 141 = .ok (.invokespecial 57, 3) := by decide +kernel
theorem dX11_init_144 : decode cX11_init 144 = .ok (.putfield 65, 3) := by decide +kernel
theorem dX11_init_147 : decode cX11_init 147 = .ok (.aload_n 0, 1) := by decide +kernel
theorem dX11_init_148 : decode cX11_init 148 = .ok (.bipush 7, 2) := by decide +kernel
theorem dX11_init_150 : decode cX11_init 150 = .ok (.newarray .long, 2) := by decide +kernel
theorem dX11_init_152 : decode cX11_init 152 = .ok (.putfield 68, 3) := by decide +kernel
theorem dX11_init_155 : decode cX11_init 155 = .ok (.aload_n 0, 1) := by decide +kernel
theorem dX11_init_156 : decode cX11_init 156 = .ok (.iconst 0, 1) := by decide +kernel
theorem dX11_init_157 : decode cX11_init 157 = .ok (.putfield 72, 3) := by decide +kernel
theorem dX11_init_160 : decode cX11_init 160 = .ok (.aload_n 0, 1) := by decide +kernel
theorem dX11_init_161 : decode cX11_init 161 = .ok (.iconst 0, 1) := by decide +kernel
theorem dX11_init_162 : decode cX11_init 162 = .ok (.putfield 76, 3) := by decide +kernel
theorem dX11_init_165 : decode cX11_init 165 = .ok (.aload_n 0, 1) := by decide +kernel
theorem dX11_init_166 : decode cX11_init 166 = .ok (.iconst 0, 1) := by decide +kernel
theorem dX11_init_167 : decode cX11_init 167 = .ok (.putfield 80, 3) := by decide +kernel
theorem dX11_init_170 : decode cX11_init 170 = .ok (.return_, 1) := by decide +kernel
def f_X11_init (F : Nat) (S : gk_S) (a : Nat) : Option (Unit × gk_S) := qk (tgb S) <| qv (gk_n S) fun b3 => qv (nK S 1 0) fun S6 => qc (f_X2_init_2100 F S6 b3) fun x9 S10 => qk (isb S10 a 8) <| qv (sP S10 800 a (some b3)) fun S15 => qk (tgb S15) <| qv (gk_n S15) fun b20 => qv (nK S15 1 0) fun S23 => qc (f_X2_init_3000 F S23 b20) fun x26 S27 => qk (isb S27 a 8) <| qv (sP S27 801 a (some b20)) fun S32 => qk (tgb S32) <| qv (gk_n S32) fun b37 => qv (nK S32 16 4) fun S40 => qv (sP S40 802 a (some b37)) fun S43 => qP (gP S43 802 a) fun b47 => qk (tgb S43) <| qv (gk_n S43) fun b52 => qv (nK S43 4 0) fun S55 => qc (f_X6_init F S55 b52) fun x58 S59 => qk (isb S59 b47 16) <| qk (isb S59 b52 4) <| qk (inb 0 (gL S59 b47)) <| qv (wP S59 b47 0 b52) fun S68 => qk (isb S68 a 8) <| qP (gP S68 802 a) fun b74 => qk (tgb S68) <| qv (gk_n S68) fun b79 => qv (nK S68 4 0) fun S82 => qc (f_X6_init F S82 b79) fun x85 S86 => qk (isb S86 b74 16) <| qk (isb S86 b79 4) <| qk (inb 1 (gL S86 b74)) <| qv (wP S86 b74 1 b79) fun S95 => qk (isb S95 a 8) <| qP (gP S95 802 a) fun b101 => qk (tgb S95) <| qv (gk_n S95) fun b106 => qv (nK S95 4 0) fun S109 => qc (f_X6_init F S109 b106) fun x112 S113 => qk (isb S113 b101 16) <| qk (isb S113 b106 4) <| qk (inb 2 (gL S113 b101)) <| qv (wP S113 b101 2 b106) fun S122 => qk (isb S122 a 8) <| qP (gP S122 802 a) fun b128 => qk (tgb S122) <| qv (gk_n S122) fun b133 => qv (nK S122 4 0) fun S136 => qc (f_X6_init F S136 b133) fun x139 S140 => qk (isb S140 b128 16) <| qk (isb S140 b133 4) <| qk (inb 3 (gL S140 b128)) <| qv (wP S140 b128 3 b133) fun S149 => qk (tgb S149) <| qv (gk_n S149) fun b155 => qv (nK S149 4 0) fun S158 => qc (f_X6_init F S158 b155) fun x161 S162 => qk (isb S162 a 8) <| qv (sP S162 810 a (some b155)) fun S167 => qk (tgb S167) <| qv (gk_n S167) fun b172 => qv (nK S167 7 0) fun S175 => qP (gP S175 800 a) fun b178 => qc (f_X9_init F S175 b172 b178) fun x181 S182 => qk (isb S182 a 8) <| qv (sP S182 803 a (some b172)) fun S187 => qk (tgb S187) <| qv (gk_n S187) fun b192 => qv (nK S187 5 0) fun S195 => qc (f_X7_init F S195 b192) fun x198 S199 => qk (isb S199 a 8) <| qv (sP S199 804 a (some b192)) fun S204 => qk (tgb S204) <| qv (gk_n S204) fun b209 => qv (nK S204 6 0) fun S212 => qc (f_X8_init F S212 b209) fun x215 S216 => qk (isb S216 a 8) <| qv (sP S216 805 a (some b209)) fun S221 => qk (tgb S221) <| qv (gk_n S221) fun b226 => qv (nK S221 2 0) fun S229 => qc (f_X3_init F S229 b226) fun x232 S233 => qk (isb S233 a 8) <| qv (sP S233 806 a (some b226)) fun S238 => qk (tgb S238) <| qv (gk_n S238) fun b243 => qv (nK S238 2 0) fun S246 => qc (f_X3_init F S246 b243) fun x249 S250 => qk (isb S250 a 8) <| qv (sP S250 807 a (some b243)) fun S255 => qk (tgb S255) <| qv (gk_n S255) fun b260 => qv (nK S255 2 0) fun S263 => qc (f_X3_init F S263 b260) fun x266 S267 => qk (isb S267 a 8) <| qv (sP S267 808 a (some b260)) fun S272 => qk (tgb S272) <| qv (gk_n S272) fun b277 => qv (nK S272 12 7) fun S280 => qv (sP S280 809 a (some b277)) fun S283 => qv (sI S283 811 a 0) fun S286 => qv (sI S286 812 a 0) fun S289 => qv (sI S289 813 a 0) fun S292 => some ((), S292)
theorem e_X11_init {X : gk_X} {F : Nat} {S : gk_S} {a : Nat} {r : (Unit × gk_S)} (h0 : f_X11_init F S a = some r) : EvM X m_X11_init 3 351 9238 [.ref a] S (qRU r) := by
  unfold f_X11_init at h0
  refine ev_method (by decide +kernel) rfl rfl (Nat.le_of_ble_eq_true rfl) ?_
  show EvW X m_X11_init 3 351 9238 0 [some (.ref a), none] [] S _
  refine ev_aload_n (pc := 0) (i := 0) rfl rfl rfl dX11_init_0 ?_
  refine ev_objInit (pc := 1) gw_30 gw_31 gw_32 (by decide) (by simp) (by decide) dX11_init_1 ?_
  refine ev_aload_n (pc := 4) (i := 0) rfl rfl rfl dX11_init_4 ?_
  obtain ⟨g1, h2⟩ := qk_el h0; clear h0
  obtain ⟨b3, e4, h5⟩ := qv_el h2; clear h2
  obtain ⟨S6, e7, h8⟩ := qv_el h5; clear h5
  refine yv_new (pc := 5) (k := 350) (j := 9236) (ci := 1) g1 (by decide) e4 e7 gw_33 gw_34 gw_2 dX11_init_5 ?_
  refine ev_dup (pc := 8) (.inr rfl) dX11_init_8 ?_
  refine ev_sipush (pc := 9) (v := 2100) (by decide) dX11_init_9 ?_
  obtain ⟨x9, S10, e11, h12⟩ := qc_el h8; clear h8
  refine xv_callI (pc := 12) (k := 349) (j := 7136) (st := [.ref b3, .ref a]) (as := [.int 2100]) (v := none) (S' := S10) ok_X2_init (e_X2_init_2100 e11) (by decide) (by decide) (by decide) rfl (Nat.le_of_ble_eq_true rfl) rfl gw_35 dX11_init_12 ?_
  obtain ⟨g13, h14⟩ := qk_el h12; clear h12
  obtain ⟨S15, e16, h17⟩ := qv_el h14; clear h14
  refine yv_putPF (pc := 15) fn_800 rfl rfl (isb_el g13) e16 gw_282 dX11_init_15 ?_
  refine ev_aload_n (pc := 18) (i := 0) rfl rfl rfl dX11_init_18 ?_
  obtain ⟨g18, h19⟩ := qk_el h17; clear h17
  obtain ⟨b20, e21, h22⟩ := qv_el h19; clear h19
  obtain ⟨S23, e24, h25⟩ := qv_el h22; clear h22
  refine yv_new (pc := 19) (k := 348) (j := 7134) (ci := 1) g18 (by decide) e21 e24 gw_33 gw_34 gw_2 dX11_init_19 ?_
  refine ev_dup (pc := 22) (.inr rfl) dX11_init_22 ?_
  refine ev_sipush (pc := 23) (v := 3000) (by decide) dX11_init_23 ?_
  obtain ⟨x26, S27, e28, h29⟩ := qc_el h25; clear h25
  refine xv_callI (pc := 26) (k := 347) (j := 4134) (st := [.ref b20, .ref a]) (as := [.int 3000]) (v := none) (S' := S27) ok_X2_init (e_X2_init_3000 e28) (by decide) (by decide) (by decide) rfl (Nat.le_of_ble_eq_true rfl) rfl gw_35 dX11_init_26 ?_
  obtain ⟨g30, h31⟩ := qk_el h29; clear h29
  obtain ⟨S32, e33, h34⟩ := qv_el h31; clear h31
  refine yv_putPF (pc := 29) fn_801 rfl rfl (isb_el g30) e33 gw_283 dX11_init_29 ?_
  refine ev_aload_n (pc := 32) (i := 0) rfl rfl rfl dX11_init_32 ?_
  refine ev_iconst (pc := 33) (v := 4) (by decide) dX11_init_33 ?_
  obtain ⟨g35, h36⟩ := qk_el h34; clear h34
  obtain ⟨b37, e38, h39⟩ := qv_el h36; clear h36
  obtain ⟨S40, e41, h42⟩ := qv_el h39; clear h39
  refine yv_newq (pc := 34) (k := 346) (j := 4130) (kd := 16) (N := 4) g35 (by decide) e38 e41 gw_50 (by decide) (by decide) (by decide) dX11_init_34 ?_
  obtain ⟨S43, e44, h45⟩ := qv_el h42; clear h42
  refine yv_putPF (pc := 37) fn_802 rfl rfl (is_nK (is_sP (isb_el g30) e33) e41) e44 gw_284 dX11_init_37 ?_
  refine ev_iconst (pc := 40) (v := 0) (by decide) dX11_init_40 ?_
  refine ev_istore_n (pc := 41) (L' := [some (.ref a), some (.int 0)]) (i := 1) rfl (by decide) rfl rfl dX11_init_41 ?_
  refine ev_iload_n (pc := 42) (i := 1) rfl rfl dX11_init_42 ?_
  refine ev_iconst (pc := 43) (v := 4) (by decide) dX11_init_43 ?_
  refine ev_ic_ge (pc := 44) (tgt := 66) (by decide) dX11_init_44 (fun c46 => absurd c46 (by decide)) (fun c46 => ?_)
  refine ev_aload_n (pc := 47) (i := 0) rfl rfl rfl dX11_init_47 ?_
  obtain ⟨b47, e48, h49⟩ := qP_el h45; clear h45
  refine xv_getP (pc := 48) fn_802 (is_sP (is_nK (is_sP (isb_el g30) e33) e41) e44) e48 gw_284 dX11_init_48 ?_
  refine ev_iload_n (pc := 51) (i := 1) rfl rfl dX11_init_51 ?_
  obtain ⟨g50, h51⟩ := qk_el h49; clear h49
  obtain ⟨b52, e53, h54⟩ := qv_el h51; clear h51
  obtain ⟨S55, e56, h57⟩ := qv_el h54; clear h54
  refine yv_new (pc := 52) (k := 345) (j := 4126) (ci := 4) g50 (by decide) e53 e56 gw_50 gw_52 gw_3 dX11_init_52 ?_
  refine ev_dup (pc := 55) (.inr rfl) dX11_init_55 ?_
  obtain ⟨x58, S59, e60, h61⟩ := qc_el h57; clear h57
  refine xv_callI (pc := 56) (k := 296) (j := 3838) (st := [.ref b52, .int 0, .ref b47]) (as := []) (v := none) (S' := S59) ok_X6_init (e_X6_init e60) (by decide) (by decide) (by decide) rfl (Nat.le_of_ble_eq_true rfl) rfl gw_53 dX11_init_56 ?_
  obtain ⟨g62, h63⟩ := qk_el h61; clear h61
  obtain ⟨g64, h65⟩ := qk_el h63; clear h63
  obtain ⟨g66, h67⟩ := qk_el h65; clear h65
  obtain ⟨S68, e69, h70⟩ := qv_el h67; clear h67
  refine yv_aast (pc := 59) (isb_el g62) (by decide) (isb_el g64) (inb_el g66) e69 dX11_init_59 ?_
  refine ev_iinc (pc := 60) (L' := [some (.ref a), some (.int 1)]) (i := 1) (v := 1) rfl (by decide) (by decide) rfl rfl dX11_init_60 ?_
  refine ev_goto (pc := 63) (tgt := 42) (by decide) dX11_init_63 ?_
  refine ev_iload_n (pc := 42) (i := 1) rfl rfl dX11_init_42 ?_
  refine ev_iconst (pc := 43) (v := 4) (by decide) dX11_init_43 ?_
  refine ev_ic_ge (pc := 44) (tgt := 66) (by decide) dX11_init_44 (fun c71 => absurd c71 (by decide)) (fun c71 => ?_)
  refine ev_aload_n (pc := 47) (i := 0) rfl rfl rfl dX11_init_47 ?_
  obtain ⟨g72, h73⟩ := qk_el h70; clear h70
  obtain ⟨b74, e75, h76⟩ := qP_el h73; clear h73
  refine xv_getP (pc := 48) fn_802 (isb_el g72) e75 gw_284 dX11_init_48 ?_
  refine ev_iload_n (pc := 51) (i := 1) rfl rfl dX11_init_51 ?_
  obtain ⟨g77, h78⟩ := qk_el h76; clear h76
  obtain ⟨b79, e80, h81⟩ := qv_el h78; clear h78
  obtain ⟨S82, e83, h84⟩ := qv_el h81; clear h81
  refine yv_new (pc := 52) (k := 295) (j := 3834) (ci := 4) g77 (by decide) e80 e83 gw_50 gw_52 gw_3 dX11_init_52 ?_
  refine ev_dup (pc := 55) (.inr rfl) dX11_init_55 ?_
  obtain ⟨x85, S86, e87, h88⟩ := qc_el h84; clear h84
  refine xv_callI (pc := 56) (k := 246) (j := 3546) (st := [.ref b79, .int 1, .ref b74]) (as := []) (v := none) (S' := S86) ok_X6_init (e_X6_init e87) (by decide) (by decide) (by decide) rfl (Nat.le_of_ble_eq_true rfl) rfl gw_53 dX11_init_56 ?_
  obtain ⟨g89, h90⟩ := qk_el h88; clear h88
  obtain ⟨g91, h92⟩ := qk_el h90; clear h90
  obtain ⟨g93, h94⟩ := qk_el h92; clear h92
  obtain ⟨S95, e96, h97⟩ := qv_el h94; clear h94
  refine yv_aast (pc := 59) (isb_el g89) (by decide) (isb_el g91) (inb_el g93) e96 dX11_init_59 ?_
  refine ev_iinc (pc := 60) (L' := [some (.ref a), some (.int 2)]) (i := 1) (v := 2) rfl (by decide) (by decide) rfl rfl dX11_init_60 ?_
  refine ev_goto (pc := 63) (tgt := 42) (by decide) dX11_init_63 ?_
  refine ev_iload_n (pc := 42) (i := 1) rfl rfl dX11_init_42 ?_
  refine ev_iconst (pc := 43) (v := 4) (by decide) dX11_init_43 ?_
  refine ev_ic_ge (pc := 44) (tgt := 66) (by decide) dX11_init_44 (fun c98 => absurd c98 (by decide)) (fun c98 => ?_)
  refine ev_aload_n (pc := 47) (i := 0) rfl rfl rfl dX11_init_47 ?_
  obtain ⟨g99, h100⟩ := qk_el h97; clear h97
  obtain ⟨b101, e102, h103⟩ := qP_el h100; clear h100
  refine xv_getP (pc := 48) fn_802 (isb_el g99) e102 gw_284 dX11_init_48 ?_
  refine ev_iload_n (pc := 51) (i := 1) rfl rfl dX11_init_51 ?_
  obtain ⟨g104, h105⟩ := qk_el h103; clear h103
  obtain ⟨b106, e107, h108⟩ := qv_el h105; clear h105
  obtain ⟨S109, e110, h111⟩ := qv_el h108; clear h108
  refine yv_new (pc := 52) (k := 245) (j := 3542) (ci := 4) g104 (by decide) e107 e110 gw_50 gw_52 gw_3 dX11_init_52 ?_
  refine ev_dup (pc := 55) (.inr rfl) dX11_init_55 ?_
  obtain ⟨x112, S113, e114, h115⟩ := qc_el h111; clear h111
  refine xv_callI (pc := 56) (k := 196) (j := 3254) (st := [.ref b106, .int 2, .ref b101]) (as := []) (v := none) (S' := S113) ok_X6_init (e_X6_init e114) (by decide) (by decide) (by decide) rfl (Nat.le_of_ble_eq_true rfl) rfl gw_53 dX11_init_56 ?_
  obtain ⟨g116, h117⟩ := qk_el h115; clear h115
  obtain ⟨g118, h119⟩ := qk_el h117; clear h117
  obtain ⟨g120, h121⟩ := qk_el h119; clear h119
  obtain ⟨S122, e123, h124⟩ := qv_el h121; clear h121
  refine yv_aast (pc := 59) (isb_el g116) (by decide) (isb_el g118) (inb_el g120) e123 dX11_init_59 ?_
  refine ev_iinc (pc := 60) (L' := [some (.ref a), some (.int 3)]) (i := 1) (v := 3) rfl (by decide) (by decide) rfl rfl dX11_init_60 ?_
  refine ev_goto (pc := 63) (tgt := 42) (by decide) dX11_init_63 ?_
  refine ev_iload_n (pc := 42) (i := 1) rfl rfl dX11_init_42 ?_
  refine ev_iconst (pc := 43) (v := 4) (by decide) dX11_init_43 ?_
  refine ev_ic_ge (pc := 44) (tgt := 66) (by decide) dX11_init_44 (fun c125 => absurd c125 (by decide)) (fun c125 => ?_)
  refine ev_aload_n (pc := 47) (i := 0) rfl rfl rfl dX11_init_47 ?_
  obtain ⟨g126, h127⟩ := qk_el h124; clear h124
  obtain ⟨b128, e129, h130⟩ := qP_el h127; clear h127
  refine xv_getP (pc := 48) fn_802 (isb_el g126) e129 gw_284 dX11_init_48 ?_
  refine ev_iload_n (pc := 51) (i := 1) rfl rfl dX11_init_51 ?_
  obtain ⟨g131, h132⟩ := qk_el h130; clear h130
  obtain ⟨b133, e134, h135⟩ := qv_el h132; clear h132
  obtain ⟨S136, e137, h138⟩ := qv_el h135; clear h135
  refine yv_new (pc := 52) (k := 195) (j := 3250) (ci := 4) g131 (by decide) e134 e137 gw_50 gw_52 gw_3 dX11_init_52 ?_
  refine ev_dup (pc := 55) (.inr rfl) dX11_init_55 ?_
  obtain ⟨x139, S140, e141, h142⟩ := qc_el h138; clear h138
  refine xv_callI (pc := 56) (k := 146) (j := 2962) (st := [.ref b133, .int 3, .ref b128]) (as := []) (v := none) (S' := S140) ok_X6_init (e_X6_init e141) (by decide) (by decide) (by decide) rfl (Nat.le_of_ble_eq_true rfl) rfl gw_53 dX11_init_56 ?_
  obtain ⟨g143, h144⟩ := qk_el h142; clear h142
  obtain ⟨g145, h146⟩ := qk_el h144; clear h144
  obtain ⟨g147, h148⟩ := qk_el h146; clear h146
  obtain ⟨S149, e150, h151⟩ := qv_el h148; clear h148
  refine yv_aast (pc := 59) (isb_el g143) (by decide) (isb_el g145) (inb_el g147) e150 dX11_init_59 ?_
  refine ev_iinc (pc := 60) (L' := [some (.ref a), some (.int 4)]) (i := 1) (v := 4) rfl (by decide) (by decide) rfl rfl dX11_init_60 ?_
  refine ev_goto (pc := 63) (tgt := 42) (by decide) dX11_init_63 ?_
  refine ev_iload_n (pc := 42) (i := 1) rfl rfl dX11_init_42 ?_
  refine ev_iconst (pc := 43) (v := 4) (by decide) dX11_init_43 ?_
  refine ev_ic_ge (pc := 44) (tgt := 66) (by decide) dX11_init_44 (fun c152 => ?_) (fun c152 => absurd (by decide) c152)
  refine ev_aload_n (pc := 66) (i := 0) rfl rfl rfl dX11_init_66 ?_
  obtain ⟨g153, h154⟩ := qk_el h151; clear h151
  obtain ⟨b155, e156, h157⟩ := qv_el h154; clear h154
  obtain ⟨S158, e159, h160⟩ := qv_el h157; clear h157
  refine yv_new (pc := 67) (k := 145) (j := 2958) (ci := 4) g153 (by decide) e156 e159 gw_50 gw_52 gw_3 dX11_init_67 ?_
  refine ev_dup (pc := 70) (.inr rfl) dX11_init_70 ?_
  obtain ⟨x161, S162, e163, h164⟩ := qc_el h160; clear h160
  refine xv_callI (pc := 71) (k := 96) (j := 2670) (st := [.ref b155, .ref a]) (as := []) (v := none) (S' := S162) ok_X6_init (e_X6_init e163) (by decide) (by decide) (by decide) rfl (Nat.le_of_ble_eq_true rfl) rfl gw_53 dX11_init_71 ?_
  obtain ⟨g165, h166⟩ := qk_el h164; clear h164
  obtain ⟨S167, e168, h169⟩ := qv_el h166; clear h166
  refine yv_putP (pc := 74) fn_810 (isb_el g165) e168 gw_292 dX11_init_74 ?_
  refine ev_aload_n (pc := 77) (i := 0) rfl rfl rfl dX11_init_77 ?_
  obtain ⟨g170, h171⟩ := qk_el h169; clear h169
  obtain ⟨b172, e173, h174⟩ := qv_el h171; clear h171
  obtain ⟨S175, e176, h177⟩ := qv_el h174; clear h174
  refine yv_new (pc := 78) (k := 95) (j := 2659) (ci := 7) g170 (by decide) e173 e176 gw_112 gw_113 gw_5 dX11_init_78 ?_
  refine ev_dup (pc := 81) (.inr rfl) dX11_init_81 ?_
  refine ev_aload_n (pc := 82) (i := 0) rfl rfl rfl dX11_init_82 ?_
  obtain ⟨b178, e179, h180⟩ := qP_el h177; clear h177
  refine xv_getP (pc := 83) fn_800 (is_nK (is_sP (isb_el g165) e168) e176) e179 gw_282 dX11_init_83 ?_
  obtain ⟨x181, S182, e183, h184⟩ := qc_el h180; clear h180
  refine xv_callI (pc := 86) (st := [.ref b172, .ref a]) (as := [.ref b178]) (v := none) (S' := S182) ok_X9_init (e_X9_init e183) (by decide) (by decide) (by decide) rfl (Nat.le_of_ble_eq_true rfl) rfl gw_114 dX11_init_86 ?_
  obtain ⟨g185, h186⟩ := qk_el h184; clear h184
  obtain ⟨S187, e188, h189⟩ := qv_el h186; clear h186
  refine yv_putPF (pc := 89) fn_803 rfl rfl (isb_el g185) e188 gw_285 dX11_init_89 ?_
  refine ev_aload_n (pc := 92) (i := 0) rfl rfl rfl dX11_init_92 ?_
  obtain ⟨g190, h191⟩ := qk_el h189; clear h189
  obtain ⟨b192, e193, h194⟩ := qv_el h191; clear h191
  obtain ⟨S195, e196, h197⟩ := qv_el h194; clear h194
  refine yv_new (pc := 93) (k := 94) (j := 2650) (ci := 5) g190 (by decide) e193 e196 gw_154 gw_155 gw_6 dX11_init_93 ?_
  refine ev_dup (pc := 96) (.inr rfl) dX11_init_96 ?_
  obtain ⟨x198, S199, e200, h201⟩ := qc_el h197; clear h197
  refine xv_callI (pc := 97) (k := 73) (j := 677) (st := [.ref b192, .ref a]) (as := []) (v := none) (S' := S199) ok_X7_init (e_X7_init e200) (by decide) (by decide) (by decide) rfl (Nat.le_of_ble_eq_true rfl) rfl gw_156 dX11_init_97 ?_
  obtain ⟨g202, h203⟩ := qk_el h201; clear h201
  obtain ⟨S204, e205, h206⟩ := qv_el h203; clear h203
  refine yv_putPF (pc := 100) fn_804 rfl rfl (isb_el g202) e205 gw_286 dX11_init_100 ?_
  refine ev_aload_n (pc := 103) (i := 0) rfl rfl rfl dX11_init_103 ?_
  obtain ⟨g207, h208⟩ := qk_el h206; clear h206
  obtain ⟨b209, e210, h211⟩ := qv_el h208; clear h208
  obtain ⟨S212, e213, h214⟩ := qv_el h211; clear h211
  refine yv_new (pc := 104) (k := 72) (j := 671) (ci := 6) g207 (by decide) e210 e213 gw_194 gw_195 gw_7 dX11_init_104 ?_
  refine ev_dup (pc := 107) (.inr rfl) dX11_init_107 ?_
  obtain ⟨x215, S216, e217, h218⟩ := qc_el h214; clear h214
  refine xv_callI (pc := 108) (k := 7) (j := 31) (st := [.ref b209, .ref a]) (as := []) (v := none) (S' := S216) ok_X8_init (e_X8_init e217) (by decide) (by decide) (by decide) rfl (Nat.le_of_ble_eq_true rfl) rfl gw_196 dX11_init_108 ?_
  obtain ⟨g219, h220⟩ := qk_el h218; clear h218
  obtain ⟨S221, e222, h223⟩ := qv_el h220; clear h220
  refine yv_putPF (pc := 111) fn_805 rfl rfl (isb_el g219) e222 gw_287 dX11_init_111 ?_
  refine ev_aload_n (pc := 114) (i := 0) rfl rfl rfl dX11_init_114 ?_
  obtain ⟨g224, h225⟩ := qk_el h223; clear h223
  obtain ⟨b226, e227, h228⟩ := qv_el h225; clear h225
  obtain ⟨S229, e230, h231⟩ := qv_el h228; clear h228
  refine yv_new (pc := 115) (k := 6) (j := 29) (ci := 2) g224 (by decide) e227 e230 gw_261 gw_262 gw_9 dX11_init_115 ?_
  refine ev_dup (pc := 118) (.inr rfl) dX11_init_118 ?_
  obtain ⟨x232, S233, e234, h235⟩ := qc_el h231; clear h231
  refine xv_callI (pc := 119) (k := 5) (j := 23) (st := [.ref b226, .ref a]) (as := []) (v := none) (S' := S233) ok_X3_init (e_X3_init e234) (by decide) (by decide) (by decide) rfl (Nat.le_of_ble_eq_true rfl) rfl gw_263 dX11_init_119 ?_
  obtain ⟨g236, h237⟩ := qk_el h235; clear h235
  obtain ⟨S238, e239, h240⟩ := qv_el h237; clear h237
  refine yv_putPF (pc := 122) fn_806 rfl rfl (isb_el g236) e239 gw_288 dX11_init_122 ?_
  refine ev_aload_n (pc := 125) (i := 0) rfl rfl rfl dX11_init_125 ?_
  obtain ⟨g241, h242⟩ := qk_el h240; clear h240
  obtain ⟨b243, e244, h245⟩ := qv_el h242; clear h242
  obtain ⟨S246, e247, h248⟩ := qv_el h245; clear h245
  refine yv_new (pc := 126) (k := 4) (j := 21) (ci := 2) g241 (by decide) e244 e247 gw_261 gw_262 gw_9 dX11_init_126 ?_
  refine ev_dup (pc := 129) (.inr rfl) dX11_init_129 ?_
  obtain ⟨x249, S250, e251, h252⟩ := qc_el h248; clear h248
  refine xv_callI (pc := 130) (k := 3) (j := 15) (st := [.ref b243, .ref a]) (as := []) (v := none) (S' := S250) ok_X3_init (e_X3_init e251) (by decide) (by decide) (by decide) rfl (Nat.le_of_ble_eq_true rfl) rfl gw_263 dX11_init_130 ?_
  obtain ⟨g253, h254⟩ := qk_el h252; clear h252
  obtain ⟨S255, e256, h257⟩ := qv_el h254; clear h254
  refine yv_putPF (pc := 133) fn_807 rfl rfl (isb_el g253) e256 gw_289 dX11_init_133 ?_
  refine ev_aload_n (pc := 136) (i := 0) rfl rfl rfl dX11_init_136 ?_
  obtain ⟨g258, h259⟩ := qk_el h257; clear h257
  obtain ⟨b260, e261, h262⟩ := qv_el h259; clear h259
  obtain ⟨S263, e264, h265⟩ := qv_el h262; clear h262
  refine yv_new (pc := 137) (k := 2) (j := 13) (ci := 2) g258 (by decide) e261 e264 gw_261 gw_262 gw_9 dX11_init_137 ?_
  refine ev_dup (pc := 140) (.inr rfl) dX11_init_140 ?_
  obtain ⟨x266, S267, e268, h269⟩ := qc_el h265; clear h265
  refine xv_callI (pc := 141) (k := 1) (j := 7) (st := [.ref b260, .ref a]) (as := []) (v := none) (S' := S267) ok_X3_init (e_X3_init e268) (by decide) (by decide) (by decide) rfl (Nat.le_of_ble_eq_true rfl) rfl gw_263 dX11_init_141 ?_
  obtain ⟨g270, h271⟩ := qk_el h269; clear h269
  obtain ⟨S272, e273, h274⟩ := qv_el h271; clear h271
  refine yv_putPF (pc := 144) fn_808 rfl rfl (isb_el g270) e273 gw_290 dX11_init_144 ?_
  refine ev_aload_n (pc := 147) (i := 0) rfl rfl rfl dX11_init_147 ?_
  refine ev_bipush (pc := 148) (v := 7) (by decide) dX11_init_148 ?_
  obtain ⟨g275, h276⟩ := qk_el h274; clear h274
  obtain ⟨b277, e278, h279⟩ := qv_el h276; clear h276
  obtain ⟨S280, e281, h282⟩ := qv_el h279; clear h279
  refine yv_newa (pc := 150) (k := 0) (j := 0) (kd := 12) (N := 7) g275 (by simp) e278 e281 gw_89 (by decide) (by decide) (by decide) dX11_init_150 ?_
  obtain ⟨S283, e284, h285⟩ := qv_el h282; clear h282
  refine yv_putPF (pc := 152) fn_809 rfl rfl (is_nK (is_sP (isb_el g270) e273) e281) e284 gw_291 dX11_init_152 ?_
  refine ev_aload_n (pc := 155) (i := 0) rfl rfl rfl dX11_init_155 ?_
  refine ev_iconst (pc := 156) (v := 0) (by decide) dX11_init_156 ?_
  obtain ⟨S286, e287, h288⟩ := qv_el h285; clear h285
  refine yv_putI (pc := 157) fn_811 ⟨rfl, rfl⟩ (is_sP (is_nK (is_sP (isb_el g270) e273) e281) e284) e287 gw_293 dX11_init_157 ?_
  refine ev_aload_n (pc := 160) (i := 0) rfl rfl rfl dX11_init_160 ?_
  refine ev_iconst (pc := 161) (v := 0) (by decide) dX11_init_161 ?_
  obtain ⟨S289, e290, h291⟩ := qv_el h288; clear h288
  refine yv_putI (pc := 162) fn_812 ⟨rfl, rfl⟩ (is_sI (is_sP (is_nK (is_sP (isb_el g270) e273) e281) e284) e287) e290 gw_294 dX11_init_162 ?_
  refine ev_aload_n (pc := 165) (i := 0) rfl rfl rfl dX11_init_165 ?_
  refine ev_iconst (pc := 166) (v := 0) (by decide) dX11_init_166 ?_
  obtain ⟨S292, e293, h294⟩ := qv_el h291; clear h291
  refine yv_putI (pc := 167) fn_813 ⟨rfl, rfl⟩ (is_sI (is_sI (is_sP (is_nK (is_sP (isb_el g270) e273) e281) e284) e287) e290) e293 gw_295 dX11_init_167 ?_
  exact ev_return (pc := 170) rfl (by cases h294; rfl) dX11_init_170
theorem dX12_init_0 : decode cX12_init 0 = .ok (.aload_n 0, 1) := by decide +kernel
theorem dX12_init_1 : decode cX12_init 1 = .ok (.invokespecial 56, 3) := by decide +kernel
theorem dX12_init_4 : decode cX12_init 4 = .ok (.aload_n 0, 1) := by decide +kernel
theorem dX12_init_5 : decode cX12_init 5 = .ok (.sipush 2100, 3) := by decide +kernel
theorem dX12_init_8 : decode cX12_init 8 = .ok (.newarray .byte, 2) := by decide +kernel
theorem dX12_init_10 : decode cX12_init 10 = .ok (.putfield 14, 3) := by decide +kernel
theorem dX12_init_13 : decode cX12_init 13 = .ok (.aload_n 0, 1) := by decide +kernel
theorem dX12_init_14 : decode cX12_init 14 = .ok (.bipush 6, 2) := by decide +kernel
theorem dX12_init_16 : decode cX12_init 16 = .ok (.newarray .int, 2) := by decide +kernel
theorem dX12_init_18 : decode cX12_init 18 = .ok (.putfield 43, 3) := by decide +kernel
theorem dX12_init_21 : decode cX12_init 21 = .ok (.aload_n 0, 1) := by decide +kernel
theorem dX12_init_22 : decode cX12_init 22 = .ok (.bipush 6, 2) := by decide +kernel
theorem dX12_init_24 : decode cX12_init 24 = .ok (.newarray .int, 2) := by decide +kernel
theorem dX12_init_26 : decode cX12_init 26 = .ok (.putfield 46, 3) := by decide +kernel
theorem dX12_init_29 : decode cX12_init 29 = .ok (.aload_n 0, 1) := by decide +kernel
theorem dX12_init_30 : decode cX12_init 30 = .ok (.bipush 96, 2) := by decide +kernel
theorem dX12_init_32 : decode cX12_init 32 = .ok (.newarray .int, 2) := by decide +kernel
theorem dX12_init_34 : decode cX12_init 34 = .ok (.putfield 29, 3) := by decide +kernel
theorem dX12_init_37 : decode cX12_init 37 = .ok (.aload_n 0, 1) := by decide +kernel
theorem dX12_init_38 : decode cX12_init 38 = .ok (.bipush 96, 2) := by decide +kernel
theorem dX12_init_40 : decode cX12_init 40 = .ok (.newarray .int, 2) := by decide +kernel
theorem dX12_init_42 : decode cX12_init 42 = .ok (.putfield 33, 3) := by decide +kernel
theorem dX12_init_45 : decode cX12_init 45 = .ok (.aload_n 0, 1) := by decide +kernel
theorem dX12_init_46 : decode cX12_init 46 = .ok (.sipush 576, 3) := by decide +kernel
theorem dX12_init_49 : decode cX12_init 49 = .ok (.newarray .long, 2) := by decide +kernel
theorem dX12_init_51 : decode cX12_init 51 = .ok (.putfield 36, 3) := by decide +kernel
theorem dX12_init_54 : decode cX12_init 54 = .ok (.aload_n 0, 1) := by decide +kernel
theorem dX12_init_55 : decode cX12_init 55 = .ok (.sipush 576, 3) := by decide +kernel
theorem dX12_init_58 : decode cX12_init 58 = .ok (.newarray .long, 2) := by decide +kernel
theorem dX12_init_60 : decode cX12_init 60 = .ok (.putfield 40, 3) := by decide +kernel
theorem dX12_init_63 : decode cX12_init 63 = .ok (.aload_n 0, 1) := by decide +kernel
theorem dX12_init_64 : decode cX12_init 64 = .ok (.bipush 17, 2) := by decide +kernel
theorem dX12_init_66 : decode cX12_init 66 = .ok (.newarray .int, 2) := by decide +kernel
theorem dX12_init_68 : decode cX12_init 68 = .ok (.putfield 53, 3) := by decide +kernel
theorem dX12_init_71 : decode cX12_init 71 = .ok (.aload_n 0, 1) := by decide +kernel
theorem dX12_init_72 : decode cX12_init 72 = .ok (.bipush 18, 2) := by decide +kernel
theorem dX12_init_74 : decode cX12_init 74 = .ok (.newarray .int, 2) := by decide +kernel
theorem dX12_init_76 : decode cX12_init 76 = .ok (.putfield 62, 3) := by decide +kernel
theorem dX12_init_79 : decode cX12_init 79 = .ok (.aload_n 0, 1) := by decide +kernel
theorem dX12_init_80 : decode cX12_init 80 = .ok (.bipush 18, 2) := by decide +kernel
theorem dX12_init_82 : decode cX12_init 82 = .ok (.newarray .int, 2) := by decide +kernel
theorem dX12_init_84 : decode cX12_init 84 = .ok (.putfield 65, 3) := by decide +kernel
theorem dX12_init_87 : decode cX12_init 87 = .ok (.aload_n 0, 1) := by decide +kernel
theorem dX12_init_88 : decode cX12_init 88 = .ok (.sipush 3000, 3) := by decide +kernel
theorem dX12_init_91 : decode cX12_init 91 = .ok (.newarray .byte, 2) := by decide +kernel
theorem dX12_init_93 : decode cX12_init 93 = .ok (.putfield 68, 3) := by decide +kernel
theorem dX12_init_96 : decode cX12_init 96 = .ok (.aload_n 0, 1) := by decide +kernel
theorem dX12_init_97 : decode cX12_init 97 = .ok (.bipush 7, 2) := by decide +kernel
theorem dX12_init_99 : decode cX12_init 99 = .ok (.newarray .long, 2) := by decide +kernel
theorem dX12_init_101 : decode cX12_init 101 = .ok (.putfield 71, 3) := by decide +kernel
theorem dX12_init_104 : decode cX12_init 104 = .ok (.aload_n 0, 1) := by decide +kernel
theorem dX12_init_105 : decode cX12_init 105 = .ok (.bipush 7, 2) := by decide +kernel
theorem dX12_init_107 : decode cX12_init 107 = .ok (.newarray .long, 2) := by decide +kernel
theorem dX12_init_109 : decode cX12_init 109 = .ok (.putfield 74, 3) := by decide +kernel
theorem dX12_init_112 : decode cX12_init 112 = .ok (.aload_n 0, 1) := by decide +kernel
theorem dX12_init_113 : decode cX12_init 113 = .ok (.bipush 7, 2) := by decide +kernel
theorem dX12_init_115 : decode cX12_init 115 = .ok (.newarray .long, 2) := by decide +kernel
theorem dX12_init_117 : decode cX12_init 117 = .ok (.putfield 77, 3) := by decide +kernel
theorem dX12_init_120 : decode cX12_init 120 = .ok (.aload_n 0, 1) := by decide +kernel
theorem dX12_init_121 : decode cX12_init 121 = .ok (.sipush 16384, 3) := by decide +kernel
theorem dX12_init_124 : decode cX12_init 124 = .ok (.newarray .long, 2) := by decide +kernel
theorem dX12_init_126 : decode cX12_init 126 = .ok (.putfield 80, 3) := by decide +kernel
theorem dX12_init_129 : decode cX12_init 129 = .ok (.aload_n 0, 1) := by decide +kernel
theorem dX12_init_130 : decode cX12_init 130 = .ok (.sipush 16384, 3) := by decide +kernel
theorem dX12_init_133 : decode cX12_init 133 = .ok (.newarray .boolean, 2) := by decide +kernel
theorem dX12_init_135 : decode cX12_init 135 = .ok (.putfield 83, 3) := by decide +kernel
theorem dX12_init_138 : decode cX12_init 138 = .ok (.aload_n 0, 1) := by decide +kernel
theorem dX12_init_139 : decode cX12_init 139 = .ok (.sipush 576, 3) := by decide +kernel
theorem dX12_init_142 : decode cX12_init 142 = .ok (.newarray .int, 2) := by decide +kernel
theorem dX12_init_144 : decode cX12_init 144 = .ok (.putfield 87, 3) := by decide +kernel
theorem dX12_init_147 : decode cX12_init 147 = .ok (.aload_n 0, 1) := by decide +kernel
theorem dX12_init_148 : decode cX12_init 148 = .ok (.bipush 8, 2) := by decide +kernel
theorem dX12_init_150 : decode cX12_init 150 = .ok (.putfield 90, 3) := by decide +kernel
theorem dX12_init_153 : decode cX12_init 153 = .ok (.aload_n 0, 1) := by decide +kernel
theorem dX12_init_154 : decode cX12_init 154 = .ok (.bipush 7, 2) := by decide +kernel
theorem dX12_init_156 : decode cX12_init 156 = .ok (.newarray .int, 2) := by decide +kernel
theorem dX12_init_158 : decode cX12_init 158 = .ok (.putfield 93, 3) := by decide +kernel
theorem dX12_init_161 : decode cX12_init 161 = .ok (.aload_n 0, 1) := by decide +kernel
theorem dX12_init_162 : decode cX12_init 162 = .ok (.iconst 5, 1) := by decide +kernel
theorem dX12_init_163 : decode cX12_init 163 = .ok (.newarray .int, 2) := by decide +kernel
theorem dX12_init_165 : decode cX12_init 165 = .ok (.putfield 96, 3) := by decide +kernel
theorem dX12_init_168 : decode cX12_init 168 = .ok (.iconst 0, 1) := by decide +kernel
theorem dX12_init_169 : decode cX12_init 169 = .ok (.istore_n 1, 1) := by decide +kernel
theorem dX12_init_170 : decode cX12_init 170 = .ok (.iconst 0, 1) := by decide +kernel
theorem dX12_init_171 : decode cX12_init 171 = .ok (.istore_n 2, 1) := by decide +kernel
theorem dX12_init_172 : decode cX12_init 172 = .ok (.iload_n 2, 1) := by decide +kernel
theorem dX12_init_173 : decode cX12_init 173 = .ok (.ldc 99, 2) := by decide +kernel
theorem dX12_init_175 : decode cX12_init 175 = .ok (.invokevirtual 101, 3) := by decide +kernel
theorem dX12_init_178 : decode cX12_init 178 = .ok (.iconst 1, 1) := by decide +kernel
theorem dX12_init_179 : decode cX12_init 179 = .ok (.isub, 1) := by decide +kernel
theorem dX12_init_180 : decode cX12_init 180 = .ok (.if_icmp .ge 67, 3) := by decide +kernel
theorem dX12_init_183 : decode cX12_init 183 = .ok (.ldc 99, 2) := by decide +kernel
theorem dX12_init_185 : decode cX12_init 185 = .ok (.iload_n 2, 1) := by decide +kernel
theorem dX12_init_186 : decode cX12_init 186 = .ok (.invokevirtual 106, 3) := by decide +kernel
theorem dX12_init_189 : decode cX12_init 189 = .ok (.bipush 32, 2) := by decide +kernel
theorem dX12_init_191 : decode cX12_init 191 = .ok (.if_icmp .eq 6, 3) := by decide +kernel
theorem dX12_init_194 : decode cX12_init 194 = .ok (.goto 47, 3) := by decide +kernel
theorem dX12_init_197 : decode cX12_init 197 = .ok (.aload_n 0, 1) := by decide +kernel
theorem dX12_init_198 : decode cX12_init 198 = .ok (.getfield 62, 3) := by decide +kernel
theorem dX12_init_201 : decode cX12_init 201 = .ok (.iload_n 1, 1) := by decide +kernel
theorem dX12_init_202 : decode cX12_init 202 = .ok (.iload_n 2, 1) := by decide +kernel
theorem dX12_init_203 : decode cX12_init 203 = .ok (.iconst 1, 1) := by decide +kernel
theorem dX12_init_204 : decode cX12_init 204 = .ok (.iadd, 1) := by decide +kernel
theorem dX12_init_205 : decode cX12_init 205 = .ok (.iastore, 1) := by decide +kernel
theorem dX12_init_206 : decode cX12_init 206 = .ok (.iload_n 2, 1) := by decide +kernel
theorem dX12_init_207 : decode cX12_init 207 = .ok (.iconst 1, 1) := by decide +kernel
theorem dX12_init_208 : decode cX12_init 208 = .ok (.iadd, 1) := by decide +kernel
theorem dX12_init_209 : decode cX12_init 209 = .ok (.istore_n 3, 1) := by decide +kernel
theorem dX12_init_210 : decode cX12_init 210 = .ok (.ldc 99, 2) := by decide +kernel
theorem dX12_init_212 : decode cX12_init 212 = .ok (.iload_n 3, 1) := by decide +kernel
theorem dX12_init_213 : decode cX12_init 213 = .ok (.invokevirtual 106, 3) := by decide +kernel
theorem dX12_init_216 : decode cX12_init 216 = .ok (.bipush 32, 2) := by decide +kernel
theorem dX12_init_218 : decode cX12_init 218 = .ok (.if_icmp .eq 9, 3) := by decide +kernel
theorem dX12_init_221 : decode cX12_init 221 = .ok (.iinc 3 1, 3) := by decide +kernel
theorem dX12_init_224 : decode cX12_init 224 = .ok (.goto (-14), 3) := by decide +kernel
theorem dX12_init_227 : decode cX12_init 227 = .ok (.aload_n 0, 1) := by decide +kernel
theorem dX12_init_228 : decode cX12_init 228 = .ok (.getfield 65, 3) := by decide +kernel
theorem dX12_init_231 : decode cX12_init 231 = .ok (.iload_n 1, 1) := by decide +kernel
theorem dX12_init_232 : decode cX12_init 232 = .ok (.iload_n 3, 1) := by decide +kernel
theorem dX12_init_233 : decode cX12_init 233 = .ok (.iload_n 2, 1) := by decide +kernel
theorem dX12_init_234 : decode cX12_init 234 = .ok (.isub, 1) := by decide +kernel
theorem dX12_init_235 : decode cX12_init 235 = .ok (.iconst 1, 1) := by decide +kernel
theorem dX12_init_236 : decode cX12_init 236 = .ok (.isub, 1) := by decide +kernel
theorem dX12_init_237 : decode cX12_init 237 = .ok (.iastore, 1) := by decide +kernel
theorem dX12_init_238 : decode cX12_init 238 = .ok (.iinc 1 1, 3) := by decide +kernel
theorem dX12_init_241 : decode cX12_init 241 = .ok (.iinc 2 1, 3) := by decide +kernel
theorem dX12_init_244 : decode cX12_init 244 = .ok (.goto (-72), 3) := by decide +kernel
theorem dX12_init_247 : decode cX12_init 247 = .ok (.return_, 1) := by decide +kernel
def f_X12_init_210 (F : Nat) (k172 : Nat → Int32 → Int32 → gk_S → Option (Unit × gk_S)) : Nat → Nat → Int32 → Int32 → Int32 → gk_S → Option (Unit × gk_S)
  | 0, _, _, _, _, _ => none
  | n + 1, l0, l1, l2, l3, S => qc (f_J0_charAt_5068e F S 33 l3) fun x239 S240 => if x239 = (32 : Int32) then (qk (isb S240 l0 9) <| qP (gP S240 913 l0) fun b247 => qk (isb S240 b247 11) <| qk (inb l1 (gL S240 b247)) <| qv (wI S240 b247 l1 ((l3 - l2) - 1)) fun S254 => k172 l0 (l1 + 1) (l2 + 1) S254) else f_X12_init_210 F k172 n l0 l1 l2 (l3 + 1) S240
theorem e_X12_init_210 {X : gk_X} {F : Nat} {k172 : Nat → Int32 → Int32 → gk_S → Option (Unit × gk_S)} (hk172 : ∀ (l0 : Nat) (l1 : Int32) (l2 : Int32) (S : gk_S) (r : (Unit × gk_S)), k172 l0 l1 l2 S = some r → EvW X m_X12_init 5 0 0 172 [some (.ref l0), some (.int l1), some (.int l2), none] [] S (qRU r)) : ∀ (n : Nat) (l0 : Nat) (l1 : Int32) (l2 : Int32) (l3 : Int32) (S : gk_S) (r : (Unit × gk_S)), f_X12_init_210 F k172 n l0 l1 l2 l3 S = some r → EvW X m_X12_init 5 0 0 210 [some (.ref l0), some (.int l1), some (.int l2), some (.int l3)] [] S (qRU r) := by
  intro n
  induction n with
  | zero => intro l0 l1 l2 l3 S r h0; rw [f_X12_init_210] at h0; cases h0
  | succ n ih =>
    intro l0 l1 l2 l3 S r h0; rw [f_X12_init_210] at h0
    refine ev_ldcS (pc := 210) (i := 33) (by decide) rfl rfl dX12_init_210 ?_
    refine ev_iload_n (pc := 212) (i := 3) rfl rfl dX12_init_212 ?_
    obtain ⟨x239, S240, e241, h242⟩ := qc_el h0; clear h0
    refine xv_callT (pc := 213) (st := []) (as := [.int l3]) (v := (some (.int x239))) (S' := S240) (i9 := 33) ok_J0_charAt_5068e (e_J0_charAt_5068e e241) (by decide) (by decide) rfl (Nat.le_of_ble_eq_true rfl) rfl gw_1139 dX12_init_213 ?_
    refine ev_bipush (pc := 216) (v := 32) (by decide) dX12_init_216 ?_
    refine ev_ic_eq (pc := 218) (tgt := 227) (by decide) dX12_init_218 (fun c243 => ?_) (fun c243 => ?_)
    · replace h242 := qi_t h242 c243
      refine ev_aload_n (pc := 227) (i := 0) rfl rfl rfl dX12_init_227 ?_
      obtain ⟨g245, h246⟩ := qk_el h242; clear h242
      obtain ⟨b247, e248, h249⟩ := qP_el h246; clear h246
      refine xv_getP (pc := 228) fn_913 (isb_el g245) e248 gw_1153 dX12_init_228 ?_
      refine ev_iload_n (pc := 231) (i := 1) rfl rfl dX12_init_231 ?_
      refine ev_iload_n (pc := 232) (i := 3) rfl rfl dX12_init_232 ?_
      refine ev_iload_n (pc := 233) (i := 2) rfl rfl dX12_init_233 ?_
      refine ev_isub (pc := 234)  dX12_init_234 ?_
      refine ev_iconst (pc := 235) (v := 1) (by decide) dX12_init_235 ?_
      refine ev_isub (pc := 236)  dX12_init_236 ?_
      obtain ⟨g250, h251⟩ := qk_el h249; clear h249
      obtain ⟨g252, h253⟩ := qk_el h251; clear h251
      obtain ⟨S254, e255, h256⟩ := qv_el h253; clear h253
      refine yv_iast (pc := 237) (isb_el g250) (inb_el g252) e255 dX12_init_237 ?_
      refine ev_iinc (pc := 238) (L' := [some (.ref l0), some (.int (l1 + 1)), some (.int l2), some (.int l3)]) (i := 1) (v := (l1 + 1)) rfl rfl (by decide) rfl rfl dX12_init_238 ?_
      refine ev_iinc (pc := 241) (L' := [some (.ref l0), some (.int (l1 + 1)), some (.int (l2 + 1)), some (.int l3)]) (i := 2) (v := (l2 + 1)) rfl rfl (by decide) rfl rfl dX12_init_241 ?_
      refine ev_goto (pc := 244) (tgt := 172) (by decide) dX12_init_244 ?_
      exact ev_weak (qL_s (qL_s (qL_s (qL_n qL_nil)))) (hk172 _ _ _ _ _ h256)
    · replace h242 := qi_f h242 c243
      refine ev_iinc (pc := 221) (L' := [some (.ref l0), some (.int l1), some (.int l2), some (.int (l3 + 1))]) (i := 3) (v := (l3 + 1)) rfl rfl (by decide) rfl rfl dX12_init_221 ?_
      refine ev_goto (pc := 224) (tgt := 210) (by decide) dX12_init_224 ?_
      exact (ev_weak (qL_s (qL_s (qL_s (qL_s qL_nil)))) (ih _ _ _ _ _ _ h242))
def f_X12_init_172 (F : Nat) : Nat → Nat → Int32 → Int32 → gk_S → Option (Unit × gk_S)
  | 0, _, _, _, _ => none
  | n + 1, l0, l1, l2, S => qc (f_J0_length_8abf5 F S 33) fun x215 S216 => if (x215 - 1) ≤ l2 then (some ((), S216)) else qc (f_J0_charAt_5068e F S216 33 l2) fun x221 S222 => if x221 = (32 : Int32) then (qk (isb S222 l0 9) <| qP (gP S222 912 l0) fun b229 => qk (isb S222 b229 11) <| qk (inb l1 (gL S222 b229)) <| qv (wI S222 b229 l1 (l2 + 1)) fun S236 => f_X12_init_210 F (f_X12_init_172 F n) F l0 l1 l2 (l2 + 1) S236) else f_X12_init_172 F n l0 l1 (l2 + 1) S222
theorem e_X12_init_172 {X : gk_X} {F : Nat} : ∀ (n : Nat) (l0 : Nat) (l1 : Int32) (l2 : Int32) (S : gk_S) (r : (Unit × gk_S)), f_X12_init_172 F n l0 l1 l2 S = some r → EvW X m_X12_init 5 0 0 172 [some (.ref l0), some (.int l1), some (.int l2), none] [] S (qRU r) := by
  intro n
  induction n with
  | zero => intro l0 l1 l2 S r h0; rw [f_X12_init_172] at h0; cases h0
  | succ n ih =>
    intro l0 l1 l2 S r h0; rw [f_X12_init_172] at h0
    refine ev_iload_n (pc := 172) (i := 2) rfl rfl dX12_init_172 ?_
    refine ev_ldcS (pc := 173) (i := 33) (by decide) rfl rfl dX12_init_173 ?_
    obtain ⟨x215, S216, e217, h218⟩ := qc_el h0; clear h0
    refine xv_callT (pc := 175) (st := [.int l2]) (as := []) (v := (some (.int x215))) (S' := S216) (i9 := 33) ok_J0_length_8abf5 (e_J0_length_8abf5 e217) (by decide) (by decide) rfl (Nat.le_of_ble_eq_true rfl) rfl gw_1138 dX12_init_175 ?_
    refine ev_iconst (pc := 178) (v := 1) (by decide) dX12_init_178 ?_
    refine ev_isub (pc := 179)  dX12_init_179 ?_
    refine ev_ic_ge (pc := 180) (tgt := 247) (by decide) dX12_init_180 (fun c219 => ?_) (fun c219 => ?_)
    · replace h218 := qi_t h218 c219
      exact ev_return (pc := 247) rfl (by cases h218; rfl) dX12_init_247
    · replace h218 := qi_f h218 c219
      refine ev_ldcS (pc := 183) (i := 33) (by decide) rfl rfl dX12_init_183 ?_
      refine ev_iload_n (pc := 185) (i := 2) rfl rfl dX12_init_185 ?_
      obtain ⟨x221, S222, e223, h224⟩ := qc_el h218; clear h218
      refine xv_callT (pc := 186) (st := []) (as := [.int l2]) (v := (some (.int x221))) (S' := S222) (i9 := 33) ok_J0_charAt_5068e (e_J0_charAt_5068e e223) (by decide) (by decide) rfl (Nat.le_of_ble_eq_true rfl) rfl gw_1139 dX12_init_186 ?_
      refine ev_bipush (pc := 189) (v := 32) (by decide) dX12_init_189 ?_
      refine ev_ic_eq (pc := 191) (tgt := 197) (by decide) dX12_init_191 (fun c225 => ?_) (fun c225 => ?_)
      · replace h224 := qi_t h224 c225
        refine ev_aload_n (pc := 197) (i := 0) rfl rfl rfl dX12_init_197 ?_
        obtain ⟨g227, h228⟩ := qk_el h224; clear h224
        obtain ⟨b229, e230, h231⟩ := qP_el h228; clear h228
        refine xv_getP (pc := 198) fn_912 (isb_el g227) e230 gw_1152 dX12_init_198 ?_
        refine ev_iload_n (pc := 201) (i := 1) rfl rfl dX12_init_201 ?_
        refine ev_iload_n (pc := 202) (i := 2) rfl rfl dX12_init_202 ?_
        refine ev_iconst (pc := 203) (v := 1) (by decide) dX12_init_203 ?_
        refine ev_iadd (pc := 204)  dX12_init_204 ?_
        obtain ⟨g232, h233⟩ := qk_el h231; clear h231
        obtain ⟨g234, h235⟩ := qk_el h233; clear h233
        obtain ⟨S236, e237, h238⟩ := qv_el h235; clear h235
        refine yv_iast (pc := 205) (isb_el g232) (inb_el g234) e237 dX12_init_205 ?_
        refine ev_iload_n (pc := 206) (i := 2) rfl rfl dX12_init_206 ?_
        refine ev_iconst (pc := 207) (v := 1) (by decide) dX12_init_207 ?_
        refine ev_iadd (pc := 208)  dX12_init_208 ?_
        refine ev_istore_n (pc := 209) (L' := [some (.ref l0), some (.int l1), some (.int l2), some (.int (l2 + 1))]) (i := 3) rfl (by decide) rfl rfl dX12_init_209 ?_
        exact ev_weak (qL_s (qL_s (qL_s (qL_s qL_nil)))) (e_X12_init_210 ih F _ _ _ _ _ _ h238)
      · replace h224 := qi_f h224 c225
        refine ev_goto (pc := 194) (tgt := 241) (by decide) dX12_init_194 ?_
        refine ev_iinc (pc := 241) (L' := [some (.ref l0), some (.int l1), some (.int (l2 + 1)), none]) (i := 2) (v := (l2 + 1)) rfl rfl (by decide) rfl rfl dX12_init_241 ?_
        refine ev_goto (pc := 244) (tgt := 172) (by decide) dX12_init_244 ?_
        exact (ev_weak (qL_s (qL_s (qL_s (qL_n qL_nil)))) (ih _ _ _ _ _ h224))
def f_X12_init (F : Nat) (S : gk_S) (a : Nat) : Option (Unit × gk_S) := qk (tgb S) <| qv (gk_n S) fun b3 => qv (nK S 10 2100) fun S6 => qk (isb S6 a 9) <| qv (sP S6 901 a (some b3)) fun S11 => qk (tgb S11) <| qv (gk_n S11) fun b16 => qv (nK S11 11 6) fun S19 => qv (sP S19 905 a (some b16)) fun S22 => qk (tgb S22) <| qv (gk_n S22) fun b27 => qv (nK S22 11 6) fun S30 => qv (sP S30 906 a (some b27)) fun S33 => qk (tgb S33) <| qv (gk_n S33) fun b38 => qv (nK S33 11 96) fun S41 => qv (sP S41 907 a (some b38)) fun S44 => qk (tgb S44) <| qv (gk_n S44) fun b49 => qv (nK S44 11 96) fun S52 => qv (sP S52 908 a (some b49)) fun S55 => qk (tgb S55) <| qv (gk_n S55) fun b60 => qv (nK S55 12 576) fun S63 => qv (sP S63 909 a (some b60)) fun S66 => qk (tgb S66) <| qv (gk_n S66) fun b71 => qv (nK S66 12 576) fun S74 => qv (sP S74 910 a (some b71)) fun S77 => qk (tgb S77) <| qv (gk_n S77) fun b82 => qv (nK S77 11 17) fun S85 => qv (sP S85 911 a (some b82)) fun S88 => qk (tgb S88) <| qv (gk_n S88) fun b93 => qv (nK S88 11 18) fun S96 => qv (sP S96 912 a (some b93)) fun S99 => qk (tgb S99) <| qv (gk_n S99) fun b104 => qv (nK S99 11 18) fun S107 => qv (sP S107 913 a (some b104)) fun S110 => qk (tgb S110) <| qv (gk_n S110) fun b115 => qv (nK S110 10 3000) fun S118 => qv (sP S118 920 a (some b115)) fun S121 => qk (tgb S121) <| qv (gk_n S121) fun b126 => qv (nK S121 12 7) fun S129 => qv (sP S129 922 a (some b126)) fun S132 => qk (tgb S132) <| qv (gk_n S132) fun b137 => qv (nK S132 12 7) fun S140 => qv (sP S140 923 a (some b137)) fun S143 => qk (tgb S143) <| qv (gk_n S143) fun b148 => qv (nK S143 12 7) fun S151 => qv (sP S151 924 a (some b148)) fun S154 => qk (tgb S154) <| qv (gk_n S154) fun b159 => qv (nK S154 12 16384) fun S162 => qv (sP S162 928 a (some b159)) fun S165 => qk (tgb S165) <| qv (gk_n S165) fun b170 => qv (nK S165 13 16384) fun S173 => qv (sP S173 929 a (some b170)) fun S176 => qk (tgb S176) <| qv (gk_n S176) fun b181 => qv (nK S176 11 576) fun S184 => qv (sP S184 931 a (some b181)) fun S187 => qv (sI S187 933 a 8) fun S190 => qk (tgb S190) <| qv (gk_n S190) fun b195 => qv (nK S190 11 7) fun S198 => qv (sP S198 939 a (some b195)) fun S201 => qk (tgb S201) <| qv (gk_n S201) fun b206 => qv (nK S201 11 5) fun S209 => qv (sP S209 940 a (some b206)) fun S212 => f_X12_init_172 F F a 0 0 S212
theorem e_X12_init {X : gk_X} {F : Nat} {S : gk_S} {a : Nat} {r : (Unit × gk_S)} (h0 : f_X12_init F S a = some r) : EvM X m_X12_init 5 19 39886 [.ref a] S (qRU r) := by
  unfold f_X12_init at h0
  refine ev_method (by decide +kernel) rfl rfl (Nat.le_of_ble_eq_true rfl) ?_
  show EvW X m_X12_init 5 19 39886 0 [some (.ref a), none, none, none] [] S _
  refine ev_aload_n (pc := 0) (i := 0) rfl rfl rfl dX12_init_0 ?_
  refine ev_objInit (pc := 1) gw_1136 gw_31 gw_32 (by decide) (by simp) (by decide) dX12_init_1 ?_
  refine ev_aload_n (pc := 4) (i := 0) rfl rfl rfl dX12_init_4 ?_
  refine ev_sipush (pc := 5) (v := 2100) (by decide) dX12_init_5 ?_
  obtain ⟨g1, h2⟩ := qk_el h0; clear h0
  obtain ⟨b3, e4, h5⟩ := qv_el h2; clear h2
  obtain ⟨S6, e7, h8⟩ := qv_el h5; clear h5
  refine yv_newa (pc := 8) (k := 18) (j := 37786) (kd := 10) (N := 2100) g1 (by simp) e4 e7 gw_49 (by decide) (by decide) (by decide) dX12_init_8 ?_
  obtain ⟨g9, h10⟩ := qk_el h8; clear h8
  obtain ⟨S11, e12, h13⟩ := qv_el h10; clear h10
  refine yv_putPF (pc := 10) fn_901 rfl rfl (isb_el g9) e12 gw_1141 dX12_init_10 ?_
  refine ev_aload_n (pc := 13) (i := 0) rfl rfl rfl dX12_init_13 ?_
  refine ev_bipush (pc := 14) (v := 6) (by decide) dX12_init_14 ?_
  obtain ⟨g14, h15⟩ := qk_el h13; clear h13
  obtain ⟨b16, e17, h18⟩ := qv_el h15; clear h15
  obtain ⟨S19, e20, h21⟩ := qv_el h18; clear h18
  refine yv_newa (pc := 16) (k := 17) (j := 37780) (kd := 11) (N := 6) g14 (by simp) e17 e20 gw_193 (by decide) (by decide) (by decide) dX12_init_16 ?_
  obtain ⟨S22, e23, h24⟩ := qv_el h21; clear h21
  refine yv_putPF (pc := 18) fn_905 rfl rfl (is_nK (is_sP (isb_el g9) e12) e20) e23 gw_1145 dX12_init_18 ?_
  refine ev_aload_n (pc := 21) (i := 0) rfl rfl rfl dX12_init_21 ?_
  refine ev_bipush (pc := 22) (v := 6) (by decide) dX12_init_22 ?_
  obtain ⟨g25, h26⟩ := qk_el h24; clear h24
  obtain ⟨b27, e28, h29⟩ := qv_el h26; clear h26
  obtain ⟨S30, e31, h32⟩ := qv_el h29; clear h29
  refine yv_newa (pc := 24) (k := 16) (j := 37774) (kd := 11) (N := 6) g25 (by simp) e28 e31 gw_193 (by decide) (by decide) (by decide) dX12_init_24 ?_
  obtain ⟨S33, e34, h35⟩ := qv_el h32; clear h32
  refine yv_putPF (pc := 26) fn_906 rfl rfl (is_nK (is_sP (is_nK (is_sP (isb_el g9) e12) e20) e23) e31) e34 gw_1146 dX12_init_26 ?_
  refine ev_aload_n (pc := 29) (i := 0) rfl rfl rfl dX12_init_29 ?_
  refine ev_bipush (pc := 30) (v := 96) (by decide) dX12_init_30 ?_
  obtain ⟨g36, h37⟩ := qk_el h35; clear h35
  obtain ⟨b38, e39, h40⟩ := qv_el h37; clear h37
  obtain ⟨S41, e42, h43⟩ := qv_el h40; clear h40
  refine yv_newa (pc := 32) (k := 15) (j := 37678) (kd := 11) (N := 96) g36 (by simp) e39 e42 gw_193 (by decide) (by decide) (by decide) dX12_init_32 ?_
  obtain ⟨S44, e45, h46⟩ := qv_el h43; clear h43
  refine yv_putPF (pc := 34) fn_907 rfl rfl (is_nK (is_sP (is_nK (is_sP (is_nK (is_sP (isb_el g9) e12) e20) e23) e31) e34) e42) e45 gw_1147 dX12_init_34 ?_
  refine ev_aload_n (pc := 37) (i := 0) rfl rfl rfl dX12_init_37 ?_
  refine ev_bipush (pc := 38) (v := 96) (by decide) dX12_init_38 ?_
  obtain ⟨g47, h48⟩ := qk_el h46; clear h46
  obtain ⟨b49, e50, h51⟩ := qv_el h48; clear h48
  obtain ⟨S52, e53, h54⟩ := qv_el h51; clear h51
  refine yv_newa (pc := 40) (k := 14) (j := 37582) (kd := 11) (N := 96) g47 (by simp) e50 e53 gw_193 (by decide) (by decide) (by decide) dX12_init_40 ?_
  obtain ⟨S55, e56, h57⟩ := qv_el h54; clear h54
  refine yv_putPF (pc := 42) fn_908 rfl rfl (is_nK (is_sP (is_nK (is_sP (is_nK (is_sP (is_nK (is_sP (isb_el g9) e12) e20) e23) e31) e34) e42) e45) e53) e56 gw_1148 dX12_init_42 ?_
  refine ev_aload_n (pc := 45) (i := 0) rfl rfl rfl dX12_init_45 ?_
  refine ev_sipush (pc := 46) (v := 576) (by decide) dX12_init_46 ?_
  obtain ⟨g58, h59⟩ := qk_el h57; clear h57
  obtain ⟨b60, e61, h62⟩ := qv_el h59; clear h59
  obtain ⟨S63, e64, h65⟩ := qv_el h62; clear h62
  refine yv_newa (pc := 49) (k := 13) (j := 37006) (kd := 12) (N := 576) g58 (by simp) e61 e64 gw_89 (by decide) (by decide) (by decide) dX12_init_49 ?_
  obtain ⟨S66, e67, h68⟩ := qv_el h65; clear h65
  refine yv_putPF (pc := 51) fn_909 rfl rfl (is_nK (is_sP (is_nK (is_sP (is_nK (is_sP (is_nK (is_sP (is_nK (is_sP (isb_el g9) e12) e20) e23) e31) e34) e42) e45) e53) e56) e64) e67 gw_1149 dX12_init_51 ?_
  refine ev_aload_n (pc := 54) (i := 0) rfl rfl rfl dX12_init_54 ?_
  refine ev_sipush (pc := 55) (v := 576) (by decide) dX12_init_55 ?_
  obtain ⟨g69, h70⟩ := qk_el h68; clear h68
  obtain ⟨b71, e72, h73⟩ := qv_el h70; clear h70
  obtain ⟨S74, e75, h76⟩ := qv_el h73; clear h73
  refine yv_newa (pc := 58) (k := 12) (j := 36430) (kd := 12) (N := 576) g69 (by simp) e72 e75 gw_89 (by decide) (by decide) (by decide) dX12_init_58 ?_
  obtain ⟨S77, e78, h79⟩ := qv_el h76; clear h76
  refine yv_putPF (pc := 60) fn_910 rfl rfl (is_nK (is_sP (is_nK (is_sP (is_nK (is_sP (is_nK (is_sP (is_nK (is_sP (is_nK (is_sP (isb_el g9) e12) e20) e23) e31) e34) e42) e45) e53) e56) e64) e67) e75) e78 gw_1150 dX12_init_60 ?_
  refine ev_aload_n (pc := 63) (i := 0) rfl rfl rfl dX12_init_63 ?_
  refine ev_bipush (pc := 64) (v := 17) (by decide) dX12_init_64 ?_
  obtain ⟨g80, h81⟩ := qk_el h79; clear h79
  obtain ⟨b82, e83, h84⟩ := qv_el h81; clear h81
  obtain ⟨S85, e86, h87⟩ := qv_el h84; clear h84
  refine yv_newa (pc := 66) (k := 11) (j := 36413) (kd := 11) (N := 17) g80 (by simp) e83 e86 gw_193 (by decide) (by decide) (by decide) dX12_init_66 ?_
  obtain ⟨S88, e89, h90⟩ := qv_el h87; clear h87
  refine yv_putPF (pc := 68) fn_911 rfl rfl (is_nK (is_sP (is_nK (is_sP (is_nK (is_sP (is_nK (is_sP (is_nK (is_sP (is_nK (is_sP (is_nK (is_sP (isb_el g9) e12) e20) e23) e31) e34) e42) e45) e53) e56) e64) e67) e75) e78) e86) e89 gw_1151 dX12_init_68 ?_
  refine ev_aload_n (pc := 71) (i := 0) rfl rfl rfl dX12_init_71 ?_
  refine ev_bipush (pc := 72) (v := 18) (by decide) dX12_init_72 ?_
  obtain ⟨g91, h92⟩ := qk_el h90; clear h90
  obtain ⟨b93, e94, h95⟩ := qv_el h92; clear h92
  obtain ⟨S96, e97, h98⟩ := qv_el h95; clear h95
  refine yv_newa (pc := 74) (k := 10) (j := 36395) (kd := 11) (N := 18) g91 (by simp) e94 e97 gw_193 (by decide) (by decide) (by decide) dX12_init_74 ?_
  obtain ⟨S99, e100, h101⟩ := qv_el h98; clear h98
  refine yv_putPF (pc := 76) fn_912 rfl rfl (is_nK (is_sP (is_nK (is_sP (is_nK (is_sP (is_nK (is_sP (is_nK (is_sP (is_nK (is_sP (is_nK (is_sP (is_nK (is_sP (isb_el g9) e12) e20) e23) e31) e34) e42) e45) e53) e56) e64) e67) e75) e78) e86) e89) e97) e100 gw_1152 dX12_init_76 ?_
  refine ev_aload_n (pc := 79) (i := 0) rfl rfl rfl dX12_init_79 ?_
  refine ev_bipush (pc := 80) (v := 18) (by decide) dX12_init_80 ?_
  obtain ⟨g102, h103⟩ := qk_el h101; clear h101
  obtain ⟨b104, e105, h106⟩ := qv_el h103; clear h103
  obtain ⟨S107, e108, h109⟩ := qv_el h106; clear h106
  refine yv_newa (pc := 82) (k := 9) (j := 36377) (kd := 11) (N := 18) g102 (by simp) e105 e108 gw_193 (by decide) (by decide) (by decide) dX12_init_82 ?_
  obtain ⟨S110, e111, h112⟩ := qv_el h109; clear h109
  refine yv_putPF (pc := 84) fn_913 rfl rfl (is_nK (is_sP (is_nK (is_sP (is_nK (is_sP (is_nK (is_sP (is_nK (is_sP (is_nK (is_sP (is_nK (is_sP (is_nK (is_sP (is_nK (is_sP (isb_el g9) e12) e20) e23) e31) e34) e42) e45) e53) e56) e64) e67) e75) e78) e86) e89) e97) e100) e108) e111 gw_1153 dX12_init_84 ?_
  refine ev_aload_n (pc := 87) (i := 0) rfl rfl rfl dX12_init_87 ?_
  refine ev_sipush (pc := 88) (v := 3000) (by decide) dX12_init_88 ?_
  obtain ⟨g113, h114⟩ := qk_el h112; clear h112
  obtain ⟨b115, e116, h117⟩ := qv_el h114; clear h114
  obtain ⟨S118, e119, h120⟩ := qv_el h117; clear h117
  refine yv_newa (pc := 91) (k := 8) (j := 33377) (kd := 10) (N := 3000) g113 (by simp) e116 e119 gw_49 (by decide) (by decide) (by decide) dX12_init_91 ?_
  obtain ⟨S121, e122, h123⟩ := qv_el h120; clear h120
  refine yv_putPF (pc := 93) fn_920 rfl rfl (is_nK (is_sP (is_nK (is_sP (is_nK (is_sP (is_nK (is_sP (is_nK (is_sP (is_nK (is_sP (is_nK (is_sP (is_nK (is_sP (is_nK (is_sP (is_nK (is_sP (isb_el g9) e12) e20) e23) e31) e34) e42) e45) e53) e56) e64) e67) e75) e78) e86) e89) e97) e100) e108) e111) e119) e122 gw_1160 dX12_init_93 ?_
  refine ev_aload_n (pc := 96) (i := 0) rfl rfl rfl dX12_init_96 ?_
  refine ev_bipush (pc := 97) (v := 7) (by decide) dX12_init_97 ?_
  obtain ⟨g124, h125⟩ := qk_el h123; clear h123
  obtain ⟨b126, e127, h128⟩ := qv_el h125; clear h125
  obtain ⟨S129, e130, h131⟩ := qv_el h128; clear h128
  refine yv_newa (pc := 99) (k := 7) (j := 33370) (kd := 12) (N := 7) g124 (by simp) e127 e130 gw_89 (by decide) (by decide) (by decide) dX12_init_99 ?_
  obtain ⟨S132, e133, h134⟩ := qv_el h131; clear h131
  refine yv_putPF (pc := 101) fn_922 rfl rfl (is_nK (is_sP (is_nK (is_sP (is_nK (is_sP (is_nK (is_sP (is_nK (is_sP (is_nK (is_sP (is_nK (is_sP (is_nK (is_sP (is_nK (is_sP (is_nK (is_sP (is_nK (is_sP (isb_el g9) e12) e20) e23) e31) e34) e42) e45) e53) e56) e64) e67) e75) e78) e86) e89) e97) e100) e108) e111) e119) e122) e130) e133 gw_1162 dX12_init_101 ?_
  refine ev_aload_n (pc := 104) (i := 0) rfl rfl rfl dX12_init_104 ?_
  refine ev_bipush (pc := 105) (v := 7) (by decide) dX12_init_105 ?_
  obtain ⟨g135, h136⟩ := qk_el h134; clear h134
  obtain ⟨b137, e138, h139⟩ := qv_el h136; clear h136
  obtain ⟨S140, e141, h142⟩ := qv_el h139; clear h139
  refine yv_newa (pc := 107) (k := 6) (j := 33363) (kd := 12) (N := 7) g135 (by simp) e138 e141 gw_89 (by decide) (by decide) (by decide) dX12_init_107 ?_
  obtain ⟨S143, e144, h145⟩ := qv_el h142; clear h142
  refine yv_putPF (pc := 109) fn_923 rfl rfl (is_nK (is_sP (is_nK (is_sP (is_nK (is_sP (is_nK (is_sP (is_nK (is_sP (is_nK (is_sP (is_nK (is_sP (is_nK (is_sP (is_nK (is_sP (is_nK (is_sP (is_nK (is_sP (is_nK (is_sP (isb_el g9) e12) e20) e23) e31) e34) e42) e45) e53) e56) e64) e67) e75) e78) e86) e89) e97) e100) e108) e111) e119) e122) e130) e133) e141) e144 gw_1163 dX12_init_109 ?_
  refine ev_aload_n (pc := 112) (i := 0) rfl rfl rfl dX12_init_112 ?_
  refine ev_bipush (pc := 113) (v := 7) (by decide) dX12_init_113 ?_
  obtain ⟨g146, h147⟩ := qk_el h145; clear h145
  obtain ⟨b148, e149, h150⟩ := qv_el h147; clear h147
  obtain ⟨S151, e152, h153⟩ := qv_el h150; clear h150
  refine yv_newa (pc := 115) (k := 5) (j := 33356) (kd := 12) (N := 7) g146 (by simp) e149 e152 gw_89 (by decide) (by decide) (by decide) dX12_init_115 ?_
  obtain ⟨S154, e155, h156⟩ := qv_el h153; clear h153
  refine yv_putPF (pc := 117) fn_924 rfl rfl (is_nK (is_sP (is_nK (is_sP (is_nK (is_sP (is_nK (is_sP (is_nK (is_sP (is_nK (is_sP (is_nK (is_sP (is_nK (is_sP (is_nK (is_sP (is_nK (is_sP (is_nK (is_sP (is_nK (is_sP (is_nK (is_sP (isb_el g9) e12) e20) e23) e31) e34) e42) e45) e53) e56) e64) e67) e75) e78) e86) e89) e97) e100) e108) e111) e119) e122) e130) e133) e141) e144) e152) e155 gw_1164 dX12_init_117 ?_
  refine ev_aload_n (pc := 120) (i := 0) rfl rfl rfl dX12_init_120 ?_
  refine ev_sipush (pc := 121) (v := 16384) (by decide) dX12_init_121 ?_
  obtain ⟨g157, h158⟩ := qk_el h156; clear h156
  obtain ⟨b159, e160, h161⟩ := qv_el h158; clear h158
  obtain ⟨S162, e163, h164⟩ := qv_el h161; clear h161
  refine yv_newa (pc := 124) (k := 4) (j := 16972) (kd := 12) (N := 16384) g157 (by simp) e160 e163 gw_89 (by decide) (by decide) (by decide) dX12_init_124 ?_
  obtain ⟨S165, e166, h167⟩ := qv_el h164; clear h164
  refine yv_putPF (pc := 126) fn_928 rfl rfl (is_nK (is_sP (is_nK (is_sP (is_nK (is_sP (is_nK (is_sP (is_nK (is_sP (is_nK (is_sP (is_nK (is_sP (is_nK (is_sP (is_nK (is_sP (is_nK (is_sP (is_nK (is_sP (is_nK (is_sP (is_nK (is_sP (is_nK (is_sP (isb_el g9) e12) e20) e23) e31) e34) e42) e45) e53) e56) e64) e67) e75) e78) e86) e89) e97) e100) e108) e111) e119) e122) e130) e133) e141) e144) e152) e155) e163) e166 gw_1168 dX12_init_126 ?_
  refine ev_aload_n (pc := 129) (i := 0) rfl rfl rfl dX12_init_129 ?_
  refine ev_sipush (pc := 130) (v := 16384) (by decide) dX12_init_130 ?_
  obtain ⟨g168, h169⟩ := qk_el h167; clear h167
  obtain ⟨b170, e171, h172⟩ := qv_el h169; clear h169
  obtain ⟨S173, e174, h175⟩ := qv_el h172; clear h172
  refine yv_newa (pc := 133) (k := 3) (j := 588) (kd := 13) (N := 16384) g168 (by simp) e171 e174 gw_1267 (by decide) (by decide) (by decide) dX12_init_133 ?_
  obtain ⟨S176, e177, h178⟩ := qv_el h175; clear h175
  refine yv_putPF (pc := 135) fn_929 rfl rfl (is_nK (is_sP (is_nK (is_sP (is_nK (is_sP (is_nK (is_sP (is_nK (is_sP (is_nK (is_sP (is_nK (is_sP (is_nK (is_sP (is_nK (is_sP (is_nK (is_sP (is_nK (is_sP (is_nK (is_sP (is_nK (is_sP (is_nK (is_sP (is_nK (is_sP (isb_el g9) e12) e20) e23) e31) e34) e42) e45) e53) e56) e64) e67) e75) e78) e86) e89) e97) e100) e108) e111) e119) e122) e130) e133) e141) e144) e152) e155) e163) e166) e174) e177 gw_1169 dX12_init_135 ?_
  refine ev_aload_n (pc := 138) (i := 0) rfl rfl rfl dX12_init_138 ?_
  refine ev_sipush (pc := 139) (v := 576) (by decide) dX12_init_139 ?_
  obtain ⟨g179, h180⟩ := qk_el h178; clear h178
  obtain ⟨b181, e182, h183⟩ := qv_el h180; clear h180
  obtain ⟨S184, e185, h186⟩ := qv_el h183; clear h183
  refine yv_newa (pc := 142) (k := 2) (j := 12) (kd := 11) (N := 576) g179 (by simp) e182 e185 gw_193 (by decide) (by decide) (by decide) dX12_init_142 ?_
  obtain ⟨S187, e188, h189⟩ := qv_el h186; clear h186
  refine yv_putPF (pc := 144) fn_931 rfl rfl (is_nK (is_sP (is_nK (is_sP (is_nK (is_sP (is_nK (is_sP (is_nK (is_sP (is_nK (is_sP (is_nK (is_sP (is_nK (is_sP (is_nK (is_sP (is_nK (is_sP (is_nK (is_sP (is_nK (is_sP (is_nK (is_sP (is_nK (is_sP (is_nK (is_sP (is_nK (is_sP (isb_el g9) e12) e20) e23) e31) e34) e42) e45) e53) e56) e64) e67) e75) e78) e86) e89) e97) e100) e108) e111) e119) e122) e130) e133) e141) e144) e152) e155) e163) e166) e174) e177) e185) e188 gw_1171 dX12_init_144 ?_
  refine ev_aload_n (pc := 147) (i := 0) rfl rfl rfl dX12_init_147 ?_
  refine ev_bipush (pc := 148) (v := 8) (by decide) dX12_init_148 ?_
  obtain ⟨S190, e191, h192⟩ := qv_el h189; clear h189
  refine yv_putI (pc := 150) fn_933 ⟨rfl, rfl⟩ (is_sP (is_nK (is_sP (is_nK (is_sP (is_nK (is_sP (is_nK (is_sP (is_nK (is_sP (is_nK (is_sP (is_nK (is_sP (is_nK (is_sP (is_nK (is_sP (is_nK (is_sP (is_nK (is_sP (is_nK (is_sP (is_nK (is_sP (is_nK (is_sP (is_nK (is_sP (is_nK (is_sP (isb_el g9) e12) e20) e23) e31) e34) e42) e45) e53) e56) e64) e67) e75) e78) e86) e89) e97) e100) e108) e111) e119) e122) e130) e133) e141) e144) e152) e155) e163) e166) e174) e177) e185) e188) e191 gw_1173 dX12_init_150 ?_
  refine ev_aload_n (pc := 153) (i := 0) rfl rfl rfl dX12_init_153 ?_
  refine ev_bipush (pc := 154) (v := 7) (by decide) dX12_init_154 ?_
  obtain ⟨g193, h194⟩ := qk_el h192; clear h192
  obtain ⟨b195, e196, h197⟩ := qv_el h194; clear h194
  obtain ⟨S198, e199, h200⟩ := qv_el h197; clear h197
  refine yv_newa (pc := 156) (k := 1) (j := 5) (kd := 11) (N := 7) g193 (by simp) e196 e199 gw_193 (by decide) (by decide) (by decide) dX12_init_156 ?_
  obtain ⟨S201, e202, h203⟩ := qv_el h200; clear h200
  refine yv_putPF (pc := 158) fn_939 rfl rfl (is_nK (is_sI (is_sP (is_nK (is_sP (is_nK (is_sP (is_nK (is_sP (is_nK (is_sP (is_nK (is_sP (is_nK (is_sP (is_nK (is_sP (is_nK (is_sP (is_nK (is_sP (is_nK (is_sP (is_nK (is_sP (is_nK (is_sP (is_nK (is_sP (is_nK (is_sP (is_nK (is_sP (is_nK (is_sP (isb_el g9) e12) e20) e23) e31) e34) e42) e45) e53) e56) e64) e67) e75) e78) e86) e89) e97) e100) e108) e111) e119) e122) e130) e133) e141) e144) e152) e155) e163) e166) e174) e177) e185) e188) e191) e199) e202 gw_1179 dX12_init_158 ?_
  refine ev_aload_n (pc := 161) (i := 0) rfl rfl rfl dX12_init_161 ?_
  refine ev_iconst (pc := 162) (v := 5) (by decide) dX12_init_162 ?_
  obtain ⟨g204, h205⟩ := qk_el h203; clear h203
  obtain ⟨b206, e207, h208⟩ := qv_el h205; clear h205
  obtain ⟨S209, e210, h211⟩ := qv_el h208; clear h208
  refine yv_newa (pc := 163) (k := 0) (j := 0) (kd := 11) (N := 5) g204 (by simp) e207 e210 gw_193 (by decide) (by decide) (by decide) dX12_init_163 ?_
  obtain ⟨S212, e213, h214⟩ := qv_el h211; clear h211
  refine yv_putPF (pc := 165) fn_940 rfl rfl (is_nK (is_sP (is_nK (is_sI (is_sP (is_nK (is_sP (is_nK (is_sP (is_nK (is_sP (is_nK (is_sP (is_nK (is_sP (is_nK (is_sP (is_nK (is_sP (is_nK (is_sP (is_nK (is_sP (is_nK (is_sP (is_nK (is_sP (is_nK (is_sP (is_nK (is_sP (is_nK (is_sP (is_nK (is_sP (is_nK (is_sP (isb_el g9) e12) e20) e23) e31) e34) e42) e45) e53) e56) e64) e67) e75) e78) e86) e89) e97) e100) e108) e111) e119) e122) e130) e133) e141) e144) e152) e155) e163) e166) e174) e177) e185) e188) e191) e199) e202) e210) e213 gw_1180 dX12_init_165 ?_
  refine ev_iconst (pc := 168) (v := 0) (by decide) dX12_init_168 ?_
  refine ev_istore_n (pc := 169) (L' := [some (.ref a), some (.int 0), none, none]) (i := 1) rfl (by decide) rfl rfl dX12_init_169 ?_
  refine ev_iconst (pc := 170) (v := 0) (by decide) dX12_init_170 ?_
  refine ev_istore_n (pc := 171) (L' := [some (.ref a), some (.int 0), some (.int 0), none]) (i := 2) rfl (by decide) rfl rfl dX12_init_171 ?_
  exact ev_weak (qL_s (qL_s (qL_s (qL_n qL_nil)))) (e_X12_init_172 F _ _ _ _ _ h214)
theorem dX2_add_0 : decode cX2_add 0 = .ok (.aload_n 0, 1) := by decide +kernel
theorem dX2_add_1 : decode cX2_add 1 = .ok (.getfield 13, 3) := by decide +kernel
theorem dX2_add_4 : decode cX2_add 4 = .ok (.ifCond .lt 36, 3) := by decide +kernel
theorem dX2_add_7 : decode cX2_add 7 = .ok (.aload_n 0, 1) := by decide +kernel
theorem dX2_add_8 : decode cX2_add 8 = .ok (.getfield 13, 3) := by decide +kernel
theorem dX2_add_11 : decode cX2_add 11 = .ok (.aload_n 0, 1) := by decide +kernel
theorem dX2_add_12 : decode cX2_add 12 = .ok (.getfield 7, 3) := by decide +kernel
theorem dX2_add_15 : decode cX2_add 15 = .ok (.arraylength, 1) := by decide +kernel
theorem dX2_add_16 : decode cX2_add 16 = .ok (.if_icmp .ge 24, 3) := by decide +kernel
theorem dX2_add_19 : decode cX2_add 19 = .ok (.aload_n 0, 1) := by decide +kernel
theorem dX2_add_20 : decode cX2_add 20 = .ok (.getfield 7, 3) := by decide +kernel
theorem dX2_add_23 : decode cX2_add 23 = .ok (.aload_n 0, 1) := by decide +kernel
theorem dX2_add_24 : decode cX2_add 24 = .ok (.getfield 13, 3) := by decide +kernel
theorem dX2_add_27 : decode cX2_add 27 = .ok (.iload_n 1, 1) := by decide +kernel
theorem dX2_add_28 : decode cX2_add 28 = .ok (.i2b, 1) := by decide +kernel
theorem dX2_add_29 : decode cX2_add 29 = .ok (.bastore, 1) := by decide +kernel
theorem dX2_add_30 : decode cX2_add 30 = .ok (.aload_n 0, 1) := by decide +kernel
theorem dX2_add_31 : decode cX2_add 31 = .ok (.dup, 1) := by decide +kernel
theorem dX2_add_32 : decode cX2_add 32 = .ok (.getfield 13, 3) := by decide +kernel
theorem dX2_add_35 : decode cX2_add 35 = .ok (.iconst 1, 1) := by decide +kernel
theorem dX2_add_36 : decode cX2_add 36 = .ok (.iadd, 1) := by decide +kernel
theorem dX2_add_37 : decode cX2_add 37 = .ok (.putfield 13, 3) := by decide +kernel
theorem dX2_add_40 : decode cX2_add 40 = .ok (.return_, 1) := by decide +kernel
def f_X2_add (F : Nat) (S : gk_S) (a : Nat) (p0 : Int32) : Option (Unit × gk_S) := qk (isb S a 1) <| qv (gI S 101 a) fun x3 => if x3 < (0 : Int32) then (some ((), S)) else qv (gI S 101 a) fun x8 => qP (gP S 100 a) fun b11 => qk (isb S b11 10) <| qv (gL S b11) fun n16 => if (nI n16) ≤ x8 then (some ((), S)) else qP (gP S 100 a) fun b21 => qv (gI S 101 a) fun x24 => qk (isb S b21 10) <| qk (inb x24 (gL S b21)) <| qv (wB S b21 x24 ((p0 : Int32).toInt8.toInt32)) fun S31 => qv (gI S31 101 a) fun x34 => qv (sI S31 101 a (x34 + 1)) fun S37 => some ((), S37)
theorem e_X2_add {X : gk_X} {F : Nat} {S : gk_S} {a : Nat} {p0 : Int32} {r : (Unit × gk_S)} (h0 : f_X2_add F S a p0 = some r) : EvM X m_X2_add 1 0 0 [.ref a, .int p0] S (qRU r) := by
  unfold f_X2_add at h0
  refine ev_method (by decide +kernel) rfl rfl (Nat.le_of_ble_eq_true rfl) ?_
  show EvW X m_X2_add 1 0 0 0 [some (.ref a), some (.int p0)] [] S _
  refine ev_aload_n (pc := 0) (i := 0) rfl rfl rfl dX2_add_0 ?_
  obtain ⟨g1, h2⟩ := qk_el h0; clear h0
  obtain ⟨x3, e4, h5⟩ := qv_el h2; clear h2
  refine xv_getIv (pc := 1) fn_101 (isb_el g1) e4 gw_40 dX2_add_1 ?_
  refine ev_if_lt (pc := 4) (tgt := 40) (by decide) dX2_add_4 (fun c6 => ?_) (fun c6 => ?_)
  · replace h5 := qi_t h5 c6
    exact ev_return (pc := 40) rfl (by cases h5; rfl) dX2_add_40
  · replace h5 := qi_f h5 c6
    refine ev_aload_n (pc := 7) (i := 0) rfl rfl rfl dX2_add_7 ?_
    obtain ⟨x8, e9, h10⟩ := qv_el h5; clear h5
    refine xv_getIv (pc := 8) fn_101 (isb_el g1) e9 gw_40 dX2_add_8 ?_
    refine ev_aload_n (pc := 11) (i := 0) rfl rfl rfl dX2_add_11 ?_
    obtain ⟨b11, e12, h13⟩ := qP_el h10; clear h10
    refine xv_getP (pc := 12) fn_100 (isb_el g1) e12 gw_39 dX2_add_12 ?_
    obtain ⟨g14, h15⟩ := qk_el h13; clear h13
    obtain ⟨n16, e17, h18⟩ := qv_el h15; clear h15
    refine xv_alen (pc := 15) (n := n16) (isb_el g14) (by decide) e17 dX2_add_15 ?_
    refine ev_ic_ge (pc := 16) (tgt := 40) (by decide) dX2_add_16 (fun c19 => ?_) (fun c19 => ?_)
    · replace h18 := qi_t h18 c19
      exact ev_return (pc := 40) rfl (by cases h18; rfl) dX2_add_40
    · replace h18 := qi_f h18 c19
      refine ev_aload_n (pc := 19) (i := 0) rfl rfl rfl dX2_add_19 ?_
      obtain ⟨b21, e22, h23⟩ := qP_el h18; clear h18
      refine xv_getP (pc := 20) fn_100 (isb_el g1) e22 gw_39 dX2_add_20 ?_
      refine ev_aload_n (pc := 23) (i := 0) rfl rfl rfl dX2_add_23 ?_
      obtain ⟨x24, e25, h26⟩ := qv_el h23; clear h23
      refine xv_getIv (pc := 24) fn_101 (isb_el g1) e25 gw_40 dX2_add_24 ?_
      refine ev_iload_n (pc := 27) (i := 1) rfl rfl dX2_add_27 ?_
      refine ev_i2b (pc := 28)  dX2_add_28 ?_
      obtain ⟨g27, h28⟩ := qk_el h26; clear h26
      obtain ⟨g29, h30⟩ := qk_el h28; clear h28
      obtain ⟨S31, e32, h33⟩ := qv_el h30; clear h30
      refine yv_bast (pc := 29) (isb_el g27) (inb_el g29) e32 dX2_add_29 ?_
      refine ev_aload_n (pc := 30) (i := 0) rfl rfl rfl dX2_add_30 ?_
      refine ev_dup (pc := 31) (.inr rfl) dX2_add_31 ?_
      obtain ⟨x34, e35, h36⟩ := qv_el h33; clear h33
      refine xv_getIv (pc := 32) fn_101 (is_wB (isb_el g1) e32) e35 gw_40 dX2_add_32 ?_
      refine ev_iconst (pc := 35) (v := 1) (by decide) dX2_add_35 ?_
      refine ev_iadd (pc := 36)  dX2_add_36 ?_
      obtain ⟨S37, e38, h39⟩ := qv_el h36; clear h36
      refine yv_putI (pc := 37) fn_101 ⟨rfl, rfl⟩ (is_wB (isb_el g1) e32) e38 gw_40 dX2_add_37 ?_
      exact ev_return (pc := 40) rfl (by cases h39; rfl) dX2_add_40
theorem dX2_addPair_0 : decode cX2_addPair 0 = .ok (.aload_n 0, 1) := by decide +kernel
theorem dX2_addPair_1 : decode cX2_addPair 1 = .ok (.iload_n 1, 1) := by decide +kernel
theorem dX2_addPair_2 : decode cX2_addPair 2 = .ok (.bipush 8, 2) := by decide +kernel
theorem dX2_addPair_4 : decode cX2_addPair 4 = .ok (.iushr, 1) := by decide +kernel
theorem dX2_addPair_5 : decode cX2_addPair 5 = .ok (.invokevirtual 26, 3) := by decide +kernel
theorem dX2_addPair_8 : decode cX2_addPair 8 = .ok (.aload_n 0, 1) := by decide +kernel
theorem dX2_addPair_9 : decode cX2_addPair 9 = .ok (.iload_n 1, 1) := by decide +kernel
theorem dX2_addPair_10 : decode cX2_addPair 10 = .ok (.invokevirtual 26, 3) := by decide +kernel
theorem dX2_addPair_13 : decode cX2_addPair 13 = .ok (.return_, 1) := by decide +kernel
def f_X2_addPair (F : Nat) (S : gk_S) (a : Nat) (p0 : Int32) : Option (Unit × gk_S) := qv ((((p0 : Int32).toUInt32 >>> ((8 : Int32).toUInt32 &&& Int32.toUInt32 31)).toInt32)) fun x1 => qk (isb S a 1) <| qc (f_X2_add F S a x1) fun x6 S7 => qk (isb S7 a 1) <| qc (f_X2_add F S7 a p0) fun x12 S13 => some ((), S13)
theorem e_X2_addPair {X : gk_X} {F : Nat} {S : gk_S} {a : Nat} {p0 : Int32} {r : (Unit × gk_S)} (h0 : f_X2_addPair F S a p0 = some r) : EvM X m_X2_addPair 2 0 0 [.ref a, .int p0] S (qRU r) := by
  unfold f_X2_addPair at h0
  refine ev_method (by decide +kernel) rfl rfl (Nat.le_of_ble_eq_true rfl) ?_
  show EvW X m_X2_addPair 2 0 0 0 [some (.ref a), some (.int p0)] [] S _
  refine ev_aload_n (pc := 0) (i := 0) rfl rfl rfl dX2_addPair_0 ?_
  refine ev_iload_n (pc := 1) (i := 1) rfl rfl dX2_addPair_1 ?_
  refine ev_bipush (pc := 2) (v := 8) (by decide) dX2_addPair_2 ?_
  refine ev_iushr (pc := 4)  dX2_addPair_4 ?_
  obtain ⟨x1, e2, h3⟩ := qv_el h0; clear h0
  refine xv_top e2 ?_
  obtain ⟨g4, h5⟩ := qk_el h3; clear h3
  obtain ⟨x6, S7, e8, h9⟩ := qc_el h5; clear h5
  refine xv_callV (pc := 5) (st := []) (as := [.int x1]) (v := none) (S' := S7) ok_X2_add (e_X2_add e8) (isb_el g4) (by decide) rfl (Nat.le_of_ble_eq_true rfl) rfl gw_337 dX2_addPair_5 ?_
  refine ev_aload_n (pc := 8) (i := 0) rfl rfl rfl dX2_addPair_8 ?_
  refine ev_iload_n (pc := 9) (i := 1) rfl rfl dX2_addPair_9 ?_
  obtain ⟨g10, h11⟩ := qk_el h9; clear h9
  obtain ⟨x12, S13, e14, h15⟩ := qc_el h11; clear h11
  refine xv_callV (pc := 10) (st := []) (as := [.int p0]) (v := none) (S' := S13) ok_X2_add (e_X2_add e14) (isb_el g10) (by decide) rfl (Nat.le_of_ble_eq_true rfl) rfl gw_337 dX2_addPair_10 ?_
  exact ev_return (pc := 13) rfl (by cases h15; rfl) dX2_addPair_13
theorem dX2_addQuad_0 : decode cX2_addQuad 0 = .ok (.aload_n 0, 1) := by decide +kernel
theorem dX2_addQuad_1 : decode cX2_addQuad 1 = .ok (.iload_n 1, 1) := by decide +kernel
theorem dX2_addQuad_2 : decode cX2_addQuad 2 = .ok (.bipush 16, 2) := by decide +kernel
theorem dX2_addQuad_4 : decode cX2_addQuad 4 = .ok (.iushr, 1) := by decide +kernel
theorem dX2_addQuad_5 : decode cX2_addQuad 5 = .ok (.invokevirtual 30, 3) := by decide +kernel
theorem dX2_addQuad_8 : decode cX2_addQuad 8 = .ok (.aload_n 0, 1) := by decide +kernel
theorem dX2_addQuad_9 : decode cX2_addQuad 9 = .ok (.iload_n 1, 1) := by decide +kernel
theorem dX2_addQuad_10 : decode cX2_addQuad 10 = .ok (.invokevirtual 30, 3) := by decide +kernel
theorem dX2_addQuad_13 : decode cX2_addQuad 13 = .ok (.return_, 1) := by decide +kernel
def f_X2_addQuad (F : Nat) (S : gk_S) (a : Nat) (p0 : Int32) : Option (Unit × gk_S) := qv ((((p0 : Int32).toUInt32 >>> ((16 : Int32).toUInt32 &&& Int32.toUInt32 31)).toInt32)) fun x1 => qk (isb S a 1) <| qc (f_X2_addPair F S a x1) fun x6 S7 => qk (isb S7 a 1) <| qc (f_X2_addPair F S7 a p0) fun x12 S13 => some ((), S13)
theorem e_X2_addQuad {X : gk_X} {F : Nat} {S : gk_S} {a : Nat} {p0 : Int32} {r : (Unit × gk_S)} (h0 : f_X2_addQuad F S a p0 = some r) : EvM X m_X2_addQuad 3 0 0 [.ref a, .int p0] S (qRU r) := by
  unfold f_X2_addQuad at h0
  refine ev_method (by decide +kernel) rfl rfl (Nat.le_of_ble_eq_true rfl) ?_
  show EvW X m_X2_addQuad 3 0 0 0 [some (.ref a), some (.int p0)] [] S _
  refine ev_aload_n (pc := 0) (i := 0) rfl rfl rfl dX2_addQuad_0 ?_
  refine ev_iload_n (pc := 1) (i := 1) rfl rfl dX2_addQuad_1 ?_
  refine ev_bipush (pc := 2) (v := 16) (by decide) dX2_addQuad_2 ?_
  refine ev_iushr (pc := 4)  dX2_addQuad_4 ?_
  obtain ⟨x1, e2, h3⟩ := qv_el h0; clear h0
  refine xv_top e2 ?_
  obtain ⟨g4, h5⟩ := qk_el h3; clear h3
  obtain ⟨x6, S7, e8, h9⟩ := qc_el h5; clear h5
  refine xv_callV (pc := 5) (st := []) (as := [.int x1]) (v := none) (S' := S7) ok_X2_addPair (e_X2_addPair e8) (isb_el g4) (by decide) rfl (Nat.le_of_ble_eq_true rfl) rfl gw_333 dX2_addQuad_5 ?_
  refine ev_aload_n (pc := 8) (i := 0) rfl rfl rfl dX2_addQuad_8 ?_
  refine ev_iload_n (pc := 9) (i := 1) rfl rfl dX2_addQuad_9 ?_
  obtain ⟨g10, h11⟩ := qk_el h9; clear h9
  obtain ⟨x12, S13, e14, h15⟩ := qc_el h11; clear h11
  refine xv_callV (pc := 10) (st := []) (as := [.int p0]) (v := none) (S' := S13) ok_X2_addPair (e_X2_addPair e14) (isb_el g10) (by decide) rfl (Nat.le_of_ble_eq_true rfl) rfl gw_333 dX2_addQuad_10 ?_
  exact ev_return (pc := 13) rfl (by cases h15; rfl) dX2_addQuad_13
theorem dX11_feed_0 : decode cX11_feed 0 = .ok (.aload_n 0, 1) := by decide +kernel
theorem dX11_feed_1 : decode cX11_feed 1 = .ok (.getfield 14, 3) := by decide +kernel
theorem dX11_feed_4 : decode cX11_feed 4 = .ok (.getfield 83, 3) := by decide +kernel
theorem dX11_feed_7 : decode cX11_feed 7 = .ok (.bipush 20, 2) := by decide +kernel
theorem dX11_feed_9 : decode cX11_feed 9 = .ok (.iadd, 1) := by decide +kernel
theorem dX11_feed_10 : decode cX11_feed 10 = .ok (.sipush 2100, 3) := by decide +kernel
theorem dX11_feed_13 : decode cX11_feed 13 = .ok (.if_icmp .le 5, 3) := by decide +kernel
theorem dX11_feed_16 : decode cX11_feed 16 = .ok (.iconst (-1), 1) := by decide +kernel
theorem dX11_feed_17 : decode cX11_feed 17 = .ok (.ireturn, 1) := by decide +kernel
theorem dX11_feed_18 : decode cX11_feed 18 = .ok (.aload_n 0, 1) := by decide +kernel
theorem dX11_feed_19 : decode cX11_feed 19 = .ok (.getfield 14, 3) := by decide +kernel
theorem dX11_feed_22 : decode cX11_feed 22 = .ok (.iload_n 1, 1) := by decide +kernel
theorem dX11_feed_23 : decode cX11_feed 23 = .ok (.invokevirtual 86, 3) := by decide +kernel
theorem dX11_feed_26 : decode cX11_feed 26 = .ok (.aload_n 0, 1) := by decide +kernel
theorem dX11_feed_27 : decode cX11_feed 27 = .ok (.getfield 14, 3) := by decide +kernel
theorem dX11_feed_30 : decode cX11_feed 30 = .ok (.iload_n 2, 1) := by decide +kernel
theorem dX11_feed_31 : decode cX11_feed 31 = .ok (.invokevirtual 86, 3) := by decide +kernel
theorem dX11_feed_34 : decode cX11_feed 34 = .ok (.aload_n 0, 1) := by decide +kernel
theorem dX11_feed_35 : decode cX11_feed 35 = .ok (.getfield 14, 3) := by decide +kernel
theorem dX11_feed_38 : decode cX11_feed 38 = .ok (.iload_n 3, 1) := by decide +kernel
theorem dX11_feed_39 : decode cX11_feed 39 = .ok (.invokevirtual 86, 3) := by decide +kernel
theorem dX11_feed_42 : decode cX11_feed 42 = .ok (.aload_n 0, 1) := by decide +kernel
theorem dX11_feed_43 : decode cX11_feed 43 = .ok (.getfield 14, 3) := by decide +kernel
theorem dX11_feed_46 : decode cX11_feed 46 = .ok (.iload 4, 2) := by decide +kernel
theorem dX11_feed_48 : decode cX11_feed 48 = .ok (.invokevirtual 86, 3) := by decide +kernel
theorem dX11_feed_51 : decode cX11_feed 51 = .ok (.aload_n 0, 1) := by decide +kernel
theorem dX11_feed_52 : decode cX11_feed 52 = .ok (.getfield 14, 3) := by decide +kernel
theorem dX11_feed_55 : decode cX11_feed 55 = .ok (.iload 5, 2) := by decide +kernel
theorem dX11_feed_57 : decode cX11_feed 57 = .ok (.invokevirtual 86, 3) := by decide +kernel
theorem dX11_feed_60 : decode cX11_feed 60 = .ok (.aload_n 0, 1) := by decide +kernel
theorem dX11_feed_61 : decode cX11_feed 61 = .ok (.getfield 14, 3) := by decide +kernel
theorem dX11_feed_64 : decode cX11_feed 64 = .ok (.getfield 83, 3) := by decide +kernel
theorem dX11_feed_67 : decode cX11_feed 67 = .ok (.ireturn, 1) := by decide +kernel
def f_X11_feed (F : Nat) (S : gk_S) (a : Nat) (p0 : Int32) (p1 : Int32) (p2 : Int32) (p3 : Int32) (p4 : Int32) : Option (Int32 × gk_S) := qk (isb S a 8) <| qP (gP S 800 a) fun b3 => qk (isb S b3 1) <| qv (gI S 101 b3) fun x8 => if (x8 + 20) ≤ (2100 : Int32) then (qP (gP S 800 a) fun b13 => qk (isb S b13 1) <| qc (f_X2_addQuad F S b13 p0) fun x18 S19 => qk (isb S19 a 8) <| qP (gP S19 800 a) fun b24 => qk (isb S19 b24 1) <| qc (f_X2_addQuad F S19 b24 p1) fun x29 S30 => qk (isb S30 a 8) <| qP (gP S30 800 a) fun b35 => qk (isb S30 b35 1) <| qc (f_X2_addQuad F S30 b35 p2) fun x40 S41 => qk (isb S41 a 8) <| qP (gP S41 800 a) fun b46 => qk (isb S41 b46 1) <| qc (f_X2_addQuad F S41 b46 p3) fun x51 S52 => qk (isb S52 a 8) <| qP (gP S52 800 a) fun b57 => qk (isb S52 b57 1) <| qc (f_X2_addQuad F S52 b57 p4) fun x62 S63 => qk (isb S63 a 8) <| qP (gP S63 800 a) fun b68 => qk (isb S63 b68 1) <| qv (gI S63 101 b68) fun x73 => some (x73, S63)) else some ((-1), S)
theorem e_X11_feed {X : gk_X} {F : Nat} {S : gk_S} {a : Nat} {p0 : Int32} {p1 : Int32} {p2 : Int32} {p3 : Int32} {p4 : Int32} {r : (Int32 × gk_S)} (h0 : f_X11_feed F S a p0 p1 p2 p3 p4 = some r) : EvM X m_X11_feed 4 0 0 [.ref a, .int p0, .int p1, .int p2, .int p3, .int p4] S (qRI r) := by
  unfold f_X11_feed at h0
  refine ev_method (by decide +kernel) rfl rfl (Nat.le_of_ble_eq_true rfl) ?_
  show EvW X m_X11_feed 4 0 0 0 [some (.ref a), some (.int p0), some (.int p1), some (.int p2), some (.int p3), some (.int p4)] [] S _
  refine ev_aload_n (pc := 0) (i := 0) rfl rfl rfl dX11_feed_0 ?_
  obtain ⟨g1, h2⟩ := qk_el h0; clear h0
  obtain ⟨b3, e4, h5⟩ := qP_el h2; clear h2
  refine xv_getP (pc := 1) fn_800 (isb_el g1) e4 gw_282 dX11_feed_1 ?_
  obtain ⟨g6, h7⟩ := qk_el h5; clear h5
  obtain ⟨x8, e9, h10⟩ := qv_el h7; clear h7
  refine xv_getIv (pc := 4) fn_101 (isb_el g6) e9 gw_42 dX11_feed_4 ?_
  refine ev_bipush (pc := 7) (v := 20) (by decide) dX11_feed_7 ?_
  refine ev_iadd (pc := 9)  dX11_feed_9 ?_
  refine ev_sipush (pc := 10) (v := 2100) (by decide) dX11_feed_10 ?_
  refine ev_ic_le (pc := 13) (tgt := 18) (by decide) dX11_feed_13 (fun c11 => ?_) (fun c11 => ?_)
  · replace h10 := qi_t h10 c11
    refine ev_aload_n (pc := 18) (i := 0) rfl rfl rfl dX11_feed_18 ?_
    obtain ⟨b13, e14, h15⟩ := qP_el h10; clear h10
    refine xv_getP (pc := 19) fn_800 (isb_el g1) e14 gw_282 dX11_feed_19 ?_
    refine ev_iload_n (pc := 22) (i := 1) rfl rfl dX11_feed_22 ?_
    obtain ⟨g16, h17⟩ := qk_el h15; clear h15
    obtain ⟨x18, S19, e20, h21⟩ := qc_el h17; clear h17
    refine xv_callV (pc := 23) (st := []) (as := [.int p0]) (v := none) (S' := S19) ok_X2_addQuad (e_X2_addQuad e20) (isb_el g16) (by decide) rfl (Nat.le_of_ble_eq_true rfl) rfl gw_329 dX11_feed_23 ?_
    refine ev_aload_n (pc := 26) (i := 0) rfl rfl rfl dX11_feed_26 ?_
    obtain ⟨g22, h23⟩ := qk_el h21; clear h21
    obtain ⟨b24, e25, h26⟩ := qP_el h23; clear h23
    refine xv_getP (pc := 27) fn_800 (isb_el g22) e25 gw_282 dX11_feed_27 ?_
    refine ev_iload_n (pc := 30) (i := 2) rfl rfl dX11_feed_30 ?_
    obtain ⟨g27, h28⟩ := qk_el h26; clear h26
    obtain ⟨x29, S30, e31, h32⟩ := qc_el h28; clear h28
    refine xv_callV (pc := 31) (st := []) (as := [.int p1]) (v := none) (S' := S30) ok_X2_addQuad (e_X2_addQuad e31) (isb_el g27) (by decide) rfl (Nat.le_of_ble_eq_true rfl) rfl gw_329 dX11_feed_31 ?_
    refine ev_aload_n (pc := 34) (i := 0) rfl rfl rfl dX11_feed_34 ?_
    obtain ⟨g33, h34⟩ := qk_el h32; clear h32
    obtain ⟨b35, e36, h37⟩ := qP_el h34; clear h34
    refine xv_getP (pc := 35) fn_800 (isb_el g33) e36 gw_282 dX11_feed_35 ?_
    refine ev_iload_n (pc := 38) (i := 3) rfl rfl dX11_feed_38 ?_
    obtain ⟨g38, h39⟩ := qk_el h37; clear h37
    obtain ⟨x40, S41, e42, h43⟩ := qc_el h39; clear h39
    refine xv_callV (pc := 39) (st := []) (as := [.int p2]) (v := none) (S' := S41) ok_X2_addQuad (e_X2_addQuad e42) (isb_el g38) (by decide) rfl (Nat.le_of_ble_eq_true rfl) rfl gw_329 dX11_feed_39 ?_
    refine ev_aload_n (pc := 42) (i := 0) rfl rfl rfl dX11_feed_42 ?_
    obtain ⟨g44, h45⟩ := qk_el h43; clear h43
    obtain ⟨b46, e47, h48⟩ := qP_el h45; clear h45
    refine xv_getP (pc := 43) fn_800 (isb_el g44) e47 gw_282 dX11_feed_43 ?_
    refine ev_iload (pc := 46) (i := 4) rfl dX11_feed_46 ?_
    obtain ⟨g49, h50⟩ := qk_el h48; clear h48
    obtain ⟨x51, S52, e53, h54⟩ := qc_el h50; clear h50
    refine xv_callV (pc := 48) (st := []) (as := [.int p3]) (v := none) (S' := S52) ok_X2_addQuad (e_X2_addQuad e53) (isb_el g49) (by decide) rfl (Nat.le_of_ble_eq_true rfl) rfl gw_329 dX11_feed_48 ?_
    refine ev_aload_n (pc := 51) (i := 0) rfl rfl rfl dX11_feed_51 ?_
    obtain ⟨g55, h56⟩ := qk_el h54; clear h54
    obtain ⟨b57, e58, h59⟩ := qP_el h56; clear h56
    refine xv_getP (pc := 52) fn_800 (isb_el g55) e58 gw_282 dX11_feed_52 ?_
    refine ev_iload (pc := 55) (i := 5) rfl dX11_feed_55 ?_
    obtain ⟨g60, h61⟩ := qk_el h59; clear h59
    obtain ⟨x62, S63, e64, h65⟩ := qc_el h61; clear h61
    refine xv_callV (pc := 57) (st := []) (as := [.int p4]) (v := none) (S' := S63) ok_X2_addQuad (e_X2_addQuad e64) (isb_el g60) (by decide) rfl (Nat.le_of_ble_eq_true rfl) rfl gw_329 dX11_feed_57 ?_
    refine ev_aload_n (pc := 60) (i := 0) rfl rfl rfl dX11_feed_60 ?_
    obtain ⟨g66, h67⟩ := qk_el h65; clear h65
    obtain ⟨b68, e69, h70⟩ := qP_el h67; clear h67
    refine xv_getP (pc := 61) fn_800 (isb_el g66) e69 gw_282 dX11_feed_61 ?_
    obtain ⟨g71, h72⟩ := qk_el h70; clear h70
    obtain ⟨x73, e74, h75⟩ := qv_el h72; clear h72
    refine xv_getIv (pc := 64) fn_101 (isb_el g71) e74 gw_42 dX11_feed_64 ?_
    exact ev_ireturn (pc := 67) rfl rfl (by cases h75; rfl) dX11_feed_67
  · replace h10 := qi_f h10 c11
    refine ev_iconst (pc := 16) (v := -1) (by decide) dX11_feed_16 ?_
    exact ev_ireturn (pc := 17) rfl rfl (by cases h10; rfl) dX11_feed_17
theorem dX12_four_0 : decode cX12_four 0 = .ok (.bipush 24, 2) := by decide +kernel
theorem dX12_four_2 : decode cX12_four 2 = .ok (.istore_n 2, 1) := by decide +kernel
theorem dX12_four_3 : decode cX12_four 3 = .ok (.iload_n 2, 1) := by decide +kernel
theorem dX12_four_4 : decode cX12_four 4 = .ok (.ifCond .lt 32, 3) := by decide +kernel
theorem dX12_four_7 : decode cX12_four 7 = .ok (.aload_n 0, 1) := by decide +kernel
theorem dX12_four_8 : decode cX12_four 8 = .ok (.getfield 14, 3) := by decide +kernel
theorem dX12_four_11 : decode cX12_four 11 = .ok (.aload_n 0, 1) := by decide +kernel
theorem dX12_four_12 : decode cX12_four 12 = .ok (.getfield 7, 3) := by decide +kernel
theorem dX12_four_15 : decode cX12_four 15 = .ok (.iload_n 1, 1) := by decide +kernel
theorem dX12_four_16 : decode cX12_four 16 = .ok (.iload_n 2, 1) := by decide +kernel
theorem dX12_four_17 : decode cX12_four 17 = .ok (.ishr, 1) := by decide +kernel
theorem dX12_four_18 : decode cX12_four 18 = .ok (.i2b, 1) := by decide +kernel
theorem dX12_four_19 : decode cX12_four 19 = .ok (.bastore, 1) := by decide +kernel
theorem dX12_four_20 : decode cX12_four 20 = .ok (.aload_n 0, 1) := by decide +kernel
theorem dX12_four_21 : decode cX12_four 21 = .ok (.dup, 1) := by decide +kernel
theorem dX12_four_22 : decode cX12_four 22 = .ok (.getfield 7, 3) := by decide +kernel
theorem dX12_four_25 : decode cX12_four 25 = .ok (.iconst 1, 1) := by decide +kernel
theorem dX12_four_26 : decode cX12_four 26 = .ok (.iadd, 1) := by decide +kernel
theorem dX12_four_27 : decode cX12_four 27 = .ok (.putfield 7, 3) := by decide +kernel
theorem dX12_four_30 : decode cX12_four 30 = .ok (.iinc 2 (-8), 3) := by decide +kernel
theorem dX12_four_33 : decode cX12_four 33 = .ok (.goto (-30), 3) := by decide +kernel
theorem dX12_four_36 : decode cX12_four 36 = .ok (.return_, 1) := by decide +kernel
def f_X12_four_3 (F : Nat) : Nat → Nat → Int32 → Int32 → gk_S → Option (Unit × gk_S)
  | 0, _, _, _, _ => none
  | n + 1, l0, l1, l2, S => if l2 < (0 : Int32) then (some ((), S)) else qk (isb S l0 9) <| qP (gP S 901 l0) fun b5 => qv (gI S 902 l0) fun x8 => qk (isb S b5 10) <| qk (inb x8 (gL S b5)) <| qv (wB S b5 x8 ((((l1 : Int32) >>> ((l2 : Int32) &&& 31)) : Int32).toInt8.toInt32)) fun S15 => qv (gI S15 902 l0) fun x18 => qv (sI S15 902 l0 (x18 + 1)) fun S21 => f_X12_four_3 F n l0 l1 (l2 + (-8)) S21
theorem e_X12_four_3 {X : gk_X} {F : Nat} : ∀ (n : Nat) (l0 : Nat) (l1 : Int32) (l2 : Int32) (S : gk_S) (r : (Unit × gk_S)), f_X12_four_3 F n l0 l1 l2 S = some r → EvW X m_X12_four 1 0 0 3 [some (.ref l0), some (.int l1), some (.int l2)] [] S (qRU r) := by
  intro n
  induction n with
  | zero => intro l0 l1 l2 S r h0; rw [f_X12_four_3] at h0; cases h0
  | succ n ih =>
    intro l0 l1 l2 S r h0; rw [f_X12_four_3] at h0
    refine ev_iload_n (pc := 3) (i := 2) rfl rfl dX12_four_3 ?_
    refine ev_if_lt (pc := 4) (tgt := 36) (by decide) dX12_four_4 (fun c1 => ?_) (fun c1 => ?_)
    · replace h0 := qi_t h0 c1
      exact ev_return (pc := 36) rfl (by cases h0; rfl) dX12_four_36
    · replace h0 := qi_f h0 c1
      refine ev_aload_n (pc := 7) (i := 0) rfl rfl rfl dX12_four_7 ?_
      obtain ⟨g3, h4⟩ := qk_el h0; clear h0
      obtain ⟨b5, e6, h7⟩ := qP_el h4; clear h4
      refine xv_getP (pc := 8) fn_901 (isb_el g3) e6 gw_1141 dX12_four_8 ?_
      refine ev_aload_n (pc := 11) (i := 0) rfl rfl rfl dX12_four_11 ?_
      obtain ⟨x8, e9, h10⟩ := qv_el h7; clear h7
      refine xv_getIv (pc := 12) fn_902 (isb_el g3) e9 gw_1142 dX12_four_12 ?_
      refine ev_iload_n (pc := 15) (i := 1) rfl rfl dX12_four_15 ?_
      refine ev_iload_n (pc := 16) (i := 2) rfl rfl dX12_four_16 ?_
      refine ev_ishr (pc := 17)  dX12_four_17 ?_
      refine ev_i2b (pc := 18)  dX12_four_18 ?_
      obtain ⟨g11, h12⟩ := qk_el h10; clear h10
      obtain ⟨g13, h14⟩ := qk_el h12; clear h12
      obtain ⟨S15, e16, h17⟩ := qv_el h14; clear h14
      refine yv_bast (pc := 19) (isb_el g11) (inb_el g13) e16 dX12_four_19 ?_
      refine ev_aload_n (pc := 20) (i := 0) rfl rfl rfl dX12_four_20 ?_
      refine ev_dup (pc := 21) (.inr rfl) dX12_four_21 ?_
      obtain ⟨x18, e19, h20⟩ := qv_el h17; clear h17
      refine xv_getIv (pc := 22) fn_902 (is_wB (isb_el g3) e16) e19 gw_1142 dX12_four_22 ?_
      refine ev_iconst (pc := 25) (v := 1) (by decide) dX12_four_25 ?_
      refine ev_iadd (pc := 26)  dX12_four_26 ?_
      obtain ⟨S21, e22, h23⟩ := qv_el h20; clear h20
      refine yv_putI (pc := 27) fn_902 ⟨rfl, rfl⟩ (is_wB (isb_el g3) e16) e22 gw_1142 dX12_four_27 ?_
      refine ev_iinc (pc := 30) (L' := [some (.ref l0), some (.int l1), some (.int (l2 + (-8)))]) (i := 2) (v := (l2 + (-8))) rfl rfl (by decide) rfl rfl dX12_four_30 ?_
      refine ev_goto (pc := 33) (tgt := 3) (by decide) dX12_four_33 ?_
      exact (ev_weak (qL_s (qL_s (qL_s qL_nil))) (ih _ _ _ _ _ h23))
def f_X12_four (F : Nat) (S : gk_S) (a : Nat) (p0 : Int32) : Option (Unit × gk_S) := f_X12_four_3 F F a p0 24 S
theorem e_X12_four {X : gk_X} {F : Nat} {S : gk_S} {a : Nat} {p0 : Int32} {r : (Unit × gk_S)} (h0 : f_X12_four F S a p0 = some r) : EvM X m_X12_four 1 0 0 [.ref a, .int p0] S (qRU r) := by
  unfold f_X12_four at h0
  refine ev_method (by decide +kernel) rfl rfl (Nat.le_of_ble_eq_true rfl) ?_
  show EvW X m_X12_four 1 0 0 0 [some (.ref a), some (.int p0), none] [] S _
  refine ev_bipush (pc := 0) (v := 24) (by decide) dX12_four_0 ?_
  refine ev_istore_n (pc := 2) (L' := [some (.ref a), some (.int p0), some (.int 24)]) (i := 2) rfl (by decide) rfl rfl dX12_four_2 ?_
  exact ev_weak (qL_s (qL_s (qL_s qL_nil))) (e_X12_four_3 F _ _ _ _ _ h0)
theorem dX12_feed_0 : decode cX12_feed 0 = .ok (.aload_n 0, 1) := by decide +kernel
theorem dX12_feed_1 : decode cX12_feed 1 = .ok (.iconst 0, 1) := by decide +kernel
theorem dX12_feed_2 : decode cX12_feed 2 = .ok (.putfield 1, 3) := by decide +kernel
theorem dX12_feed_5 : decode cX12_feed 5 = .ok (.aload_n 0, 1) := by decide +kernel
theorem dX12_feed_6 : decode cX12_feed 6 = .ok (.getfield 7, 3) := by decide +kernel
theorem dX12_feed_9 : decode cX12_feed 9 = .ok (.bipush 20, 2) := by decide +kernel
theorem dX12_feed_11 : decode cX12_feed 11 = .ok (.iadd, 1) := by decide +kernel
theorem dX12_feed_12 : decode cX12_feed 12 = .ok (.sipush 2100, 3) := by decide +kernel
theorem dX12_feed_15 : decode cX12_feed 15 = .ok (.if_icmp .le 5, 3) := by decide +kernel
theorem dX12_feed_18 : decode cX12_feed 18 = .ok (.iconst (-1), 1) := by decide +kernel
theorem dX12_feed_19 : decode cX12_feed 19 = .ok (.ireturn, 1) := by decide +kernel
theorem dX12_feed_20 : decode cX12_feed 20 = .ok (.aload_n 0, 1) := by decide +kernel
theorem dX12_feed_21 : decode cX12_feed 21 = .ok (.iload_n 1, 1) := by decide +kernel
theorem dX12_feed_22 : decode cX12_feed 22 = .ok (.invokevirtual 10, 3) := by decide +kernel
theorem dX12_feed_25 : decode cX12_feed 25 = .ok (.aload_n 0, 1) := by decide +kernel
theorem dX12_feed_26 : decode cX12_feed 26 = .ok (.iload_n 2, 1) := by decide +kernel
theorem dX12_feed_27 : decode cX12_feed 27 = .ok (.invokevirtual 10, 3) := by decide +kernel
theorem dX12_feed_30 : decode cX12_feed 30 = .ok (.aload_n 0, 1) := by decide +kernel
theorem dX12_feed_31 : decode cX12_feed 31 = .ok (.iload_n 3, 1) := by decide +kernel
theorem dX12_feed_32 : decode cX12_feed 32 = .ok (.invokevirtual 10, 3) := by decide +kernel
theorem dX12_feed_35 : decode cX12_feed 35 = .ok (.aload_n 0, 1) := by decide +kernel
theorem dX12_feed_36 : decode cX12_feed 36 = .ok (.iload 4, 2) := by decide +kernel
theorem dX12_feed_38 : decode cX12_feed 38 = .ok (.invokevirtual 10, 3) := by decide +kernel
theorem dX12_feed_41 : decode cX12_feed 41 = .ok (.aload_n 0, 1) := by decide +kernel
theorem dX12_feed_42 : decode cX12_feed 42 = .ok (.iload 5, 2) := by decide +kernel
theorem dX12_feed_44 : decode cX12_feed 44 = .ok (.invokevirtual 10, 3) := by decide +kernel
theorem dX12_feed_47 : decode cX12_feed 47 = .ok (.aload_n 0, 1) := by decide +kernel
theorem dX12_feed_48 : decode cX12_feed 48 = .ok (.getfield 7, 3) := by decide +kernel
theorem dX12_feed_51 : decode cX12_feed 51 = .ok (.ireturn, 1) := by decide +kernel
def f_X12_feed (F : Nat) (S : gk_S) (a : Nat) (p0 : Int32) (p1 : Int32) (p2 : Int32) (p3 : Int32) (p4 : Int32) : Option (Int32 × gk_S) := qk (isb S a 9) <| qv (sI S 900 a 0) fun S3 => qv (gI S3 902 a) fun x6 => if (x6 + 20) ≤ (2100 : Int32) then (qc (f_X12_four F S3 a p0) fun x11 S12 => qk (isb S12 a 9) <| qc (f_X12_four F S12 a p1) fun x17 S18 => qk (isb S18 a 9) <| qc (f_X12_four F S18 a p2) fun x23 S24 => qk (isb S24 a 9) <| qc (f_X12_four F S24 a p3) fun x29 S30 => qk (isb S30 a 9) <| qc (f_X12_four F S30 a p4) fun x35 S36 => qk (isb S36 a 9) <| qv (gI S36 902 a) fun x41 => some (x41, S36)) else some ((-1), S3)
theorem e_X12_feed {X : gk_X} {F : Nat} {S : gk_S} {a : Nat} {p0 : Int32} {p1 : Int32} {p2 : Int32} {p3 : Int32} {p4 : Int32} {r : (Int32 × gk_S)} (h0 : f_X12_feed F S a p0 p1 p2 p3 p4 = some r) : EvM X m_X12_feed 2 0 0 [.ref a, .int p0, .int p1, .int p2, .int p3, .int p4] S (qRI r) := by
  unfold f_X12_feed at h0
  refine ev_method (by decide +kernel) rfl rfl (Nat.le_of_ble_eq_true rfl) ?_
  show EvW X m_X12_feed 2 0 0 0 [some (.ref a), some (.int p0), some (.int p1), some (.int p2), some (.int p3), some (.int p4)] [] S _
  refine ev_aload_n (pc := 0) (i := 0) rfl rfl rfl dX12_feed_0 ?_
  refine ev_iconst (pc := 1) (v := 0) (by decide) dX12_feed_1 ?_
  obtain ⟨g1, h2⟩ := qk_el h0; clear h0
  obtain ⟨S3, e4, h5⟩ := qv_el h2; clear h2
  refine yv_putI (pc := 2) fn_900 ⟨rfl, rfl⟩ (isb_el g1) e4 gw_1140 dX12_feed_2 ?_
  refine ev_aload_n (pc := 5) (i := 0) rfl rfl rfl dX12_feed_5 ?_
  obtain ⟨x6, e7, h8⟩ := qv_el h5; clear h5
  refine xv_getIv (pc := 6) fn_902 (is_sI (isb_el g1) e4) e7 gw_1142 dX12_feed_6 ?_
  refine ev_bipush (pc := 9) (v := 20) (by decide) dX12_feed_9 ?_
  refine ev_iadd (pc := 11)  dX12_feed_11 ?_
  refine ev_sipush (pc := 12) (v := 2100) (by decide) dX12_feed_12 ?_
  refine ev_ic_le (pc := 15) (tgt := 20) (by decide) dX12_feed_15 (fun c9 => ?_) (fun c9 => ?_)
  · replace h8 := qi_t h8 c9
    refine ev_aload_n (pc := 20) (i := 0) rfl rfl rfl dX12_feed_20 ?_
    refine ev_iload_n (pc := 21) (i := 1) rfl rfl dX12_feed_21 ?_
    obtain ⟨x11, S12, e13, h14⟩ := qc_el h8; clear h8
    refine xv_callV (pc := 22) (st := []) (as := [.int p0]) (v := none) (S' := S12) ok_X12_four (e_X12_four e13) (is_sI (isb_el g1) e4) (by decide) rfl (Nat.le_of_ble_eq_true rfl) rfl gw_1123 dX12_feed_22 ?_
    refine ev_aload_n (pc := 25) (i := 0) rfl rfl rfl dX12_feed_25 ?_
    refine ev_iload_n (pc := 26) (i := 2) rfl rfl dX12_feed_26 ?_
    obtain ⟨g15, h16⟩ := qk_el h14; clear h14
    obtain ⟨x17, S18, e19, h20⟩ := qc_el h16; clear h16
    refine xv_callV (pc := 27) (st := []) (as := [.int p1]) (v := none) (S' := S18) ok_X12_four (e_X12_four e19) (isb_el g15) (by decide) rfl (Nat.le_of_ble_eq_true rfl) rfl gw_1123 dX12_feed_27 ?_
    refine ev_aload_n (pc := 30) (i := 0) rfl rfl rfl dX12_feed_30 ?_
    refine ev_iload_n (pc := 31) (i := 3) rfl rfl dX12_feed_31 ?_
    obtain ⟨g21, h22⟩ := qk_el h20; clear h20
    obtain ⟨x23, S24, e25, h26⟩ := qc_el h22; clear h22
    refine xv_callV (pc := 32) (st := []) (as := [.int p2]) (v := none) (S' := S24) ok_X12_four (e_X12_four e25) (isb_el g21) (by decide) rfl (Nat.le_of_ble_eq_true rfl) rfl gw_1123 dX12_feed_32 ?_
    refine ev_aload_n (pc := 35) (i := 0) rfl rfl rfl dX12_feed_35 ?_
    refine ev_iload (pc := 36) (i := 4) rfl dX12_feed_36 ?_
    obtain ⟨g27, h28⟩ := qk_el h26; clear h26
    obtain ⟨x29, S30, e31, h32⟩ := qc_el h28; clear h28
    refine xv_callV (pc := 38) (st := []) (as := [.int p3]) (v := none) (S' := S30) ok_X12_four (e_X12_four e31) (isb_el g27) (by decide) rfl (Nat.le_of_ble_eq_true rfl) rfl gw_1123 dX12_feed_38 ?_
    refine ev_aload_n (pc := 41) (i := 0) rfl rfl rfl dX12_feed_41 ?_
    refine ev_iload (pc := 42) (i := 5) rfl dX12_feed_42 ?_
    obtain ⟨g33, h34⟩ := qk_el h32; clear h32
    obtain ⟨x35, S36, e37, h38⟩ := qc_el h34; clear h34
    refine xv_callV (pc := 44) (st := []) (as := [.int p4]) (v := none) (S' := S36) ok_X12_four (e_X12_four e37) (isb_el g33) (by decide) rfl (Nat.le_of_ble_eq_true rfl) rfl gw_1123 dX12_feed_44 ?_
    refine ev_aload_n (pc := 47) (i := 0) rfl rfl rfl dX12_feed_47 ?_
    obtain ⟨g39, h40⟩ := qk_el h38; clear h38
    obtain ⟨x41, e42, h43⟩ := qv_el h40; clear h40
    refine xv_getIv (pc := 48) fn_902 (isb_el g39) e42 gw_1142 dX12_feed_48 ?_
    exact ev_ireturn (pc := 51) rfl rfl (by cases h43; rfl) dX12_feed_51
  · replace h8 := qi_f h8 c9
    refine ev_iconst (pc := 18) (v := -1) (by decide) dX12_feed_18 ?_
    exact ev_ireturn (pc := 19) rfl rfl (by cases h8; rfl) dX12_feed_19
theorem dX11_end_0 : decode cX11_end 0 = .ok (.iload_n 1, 1) := by decide +kernel
theorem dX11_end_1 : decode cX11_end 1 = .ok (.ifCond .lt 14, 3) := by decide +kernel
theorem dX11_end_4 : decode cX11_end 4 = .ok (.iload_n 1, 1) := by decide +kernel
theorem dX11_end_5 : decode cX11_end 5 = .ok (.aload_n 0, 1) := by decide +kernel
theorem dX11_end_6 : decode cX11_end 6 = .ok (.getfield 14, 3) := by decide +kernel
theorem dX11_end_9 : decode cX11_end 9 = .ok (.getfield 83, 3) := by decide +kernel
theorem dX11_end_12 : decode cX11_end 12 = .ok (.if_icmp .le 5, 3) := by decide +kernel
theorem dX11_end_15 : decode cX11_end 15 = .ok (.iconst 0, 1) := by decide +kernel
theorem dX11_end_16 : decode cX11_end 16 = .ok (.ireturn, 1) := by decide +kernel
theorem dX11_end_17 : decode cX11_end 17 = .ok (.aload_n 0, 1) := by decide +kernel
theorem dX11_end_18 : decode cX11_end 18 = .ok (.getfield 14, 3) := by decide +kernel
theorem dX11_end_21 : decode cX11_end 21 = .ok (.iload_n 1, 1) := by decide +kernel
theorem dX11_end_22 : decode cX11_end 22 = .ok (.putfield 83, 3) := by decide +kernel
theorem dX11_end_25 : decode cX11_end 25 = .ok (.iconst 1, 1) := by decide +kernel
theorem dX11_end_26 : decode cX11_end 26 = .ok (.ireturn, 1) := by decide +kernel
def f_X11_end (F : Nat) (S : gk_S) (a : Nat) (p0 : Int32) : Option (Int32 × gk_S) := if p0 < (0 : Int32) then (some (0, S)) else qk (isb S a 8) <| qP (gP S 800 a) fun b5 => qk (isb S b5 1) <| qv (gI S 101 b5) fun x10 => if p0 ≤ x10 then (qP (gP S 800 a) fun b15 => qk (isb S b15 1) <| qv (sI S 101 b15 p0) fun S20 => some (1, S20)) else some (0, S)
theorem e_X11_end {X : gk_X} {F : Nat} {S : gk_S} {a : Nat} {p0 : Int32} {r : (Int32 × gk_S)} (h0 : f_X11_end F S a p0 = some r) : EvM X m_X11_end 1 0 0 [.ref a, .int p0] S (qRI r) := by
  unfold f_X11_end at h0
  refine ev_method (by decide +kernel) rfl rfl (Nat.le_of_ble_eq_true rfl) ?_
  show EvW X m_X11_end 1 0 0 0 [some (.ref a), some (.int p0)] [] S _
  refine ev_iload_n (pc := 0) (i := 1) rfl rfl dX11_end_0 ?_
  refine ev_if_lt (pc := 1) (tgt := 15) (by decide) dX11_end_1 (fun c1 => ?_) (fun c1 => ?_)
  · replace h0 := qi_t h0 c1
    refine ev_iconst (pc := 15) (v := 0) (by decide) dX11_end_15 ?_
    exact ev_ireturn (pc := 16) rfl rfl (by cases h0; rfl) dX11_end_16
  · replace h0 := qi_f h0 c1
    refine ev_iload_n (pc := 4) (i := 1) rfl rfl dX11_end_4 ?_
    refine ev_aload_n (pc := 5) (i := 0) rfl rfl rfl dX11_end_5 ?_
    obtain ⟨g3, h4⟩ := qk_el h0; clear h0
    obtain ⟨b5, e6, h7⟩ := qP_el h4; clear h4
    refine xv_getP (pc := 6) fn_800 (isb_el g3) e6 gw_282 dX11_end_6 ?_
    obtain ⟨g8, h9⟩ := qk_el h7; clear h7
    obtain ⟨x10, e11, h12⟩ := qv_el h9; clear h9
    refine xv_getIv (pc := 9) fn_101 (isb_el g8) e11 gw_42 dX11_end_9 ?_
    refine ev_ic_le (pc := 12) (tgt := 17) (by decide) dX11_end_12 (fun c13 => ?_) (fun c13 => ?_)
    · replace h12 := qi_t h12 c13
      refine ev_aload_n (pc := 17) (i := 0) rfl rfl rfl dX11_end_17 ?_
      obtain ⟨b15, e16, h17⟩ := qP_el h12; clear h12
      refine xv_getP (pc := 18) fn_800 (isb_el g3) e16 gw_282 dX11_end_18 ?_
      refine ev_iload_n (pc := 21) (i := 1) rfl rfl dX11_end_21 ?_
      obtain ⟨g18, h19⟩ := qk_el h17; clear h17
      obtain ⟨S20, e21, h22⟩ := qv_el h19; clear h19
      refine yv_putI (pc := 22) fn_101 ⟨rfl, rfl⟩ (isb_el g18) e21 gw_42 dX11_end_22 ?_
      refine ev_iconst (pc := 25) (v := 1) (by decide) dX11_end_25 ?_
      exact ev_ireturn (pc := 26) rfl rfl (by cases h22; rfl) dX11_end_26
    · replace h12 := qi_f h12 c13
      refine ev_iconst (pc := 15) (v := 0) (by decide) dX11_end_15 ?_
      exact ev_ireturn (pc := 16) rfl rfl (by cases h12; rfl) dX11_end_16
theorem dX12_end_0 : decode cX12_end 0 = .ok (.aload_n 0, 1) := by decide +kernel
theorem dX12_end_1 : decode cX12_end 1 = .ok (.iconst 0, 1) := by decide +kernel
theorem dX12_end_2 : decode cX12_end 2 = .ok (.putfield 1, 3) := by decide +kernel
theorem dX12_end_5 : decode cX12_end 5 = .ok (.iload_n 1, 1) := by decide +kernel
theorem dX12_end_6 : decode cX12_end 6 = .ok (.ifCond .lt 11, 3) := by decide +kernel
theorem dX12_end_9 : decode cX12_end 9 = .ok (.iload_n 1, 1) := by decide +kernel
theorem dX12_end_10 : decode cX12_end 10 = .ok (.aload_n 0, 1) := by decide +kernel
theorem dX12_end_11 : decode cX12_end 11 = .ok (.getfield 7, 3) := by decide +kernel
theorem dX12_end_14 : decode cX12_end 14 = .ok (.if_icmp .le 5, 3) := by decide +kernel
theorem dX12_end_17 : decode cX12_end 17 = .ok (.iconst 0, 1) := by decide +kernel
theorem dX12_end_18 : decode cX12_end 18 = .ok (.ireturn, 1) := by decide +kernel
theorem dX12_end_19 : decode cX12_end 19 = .ok (.aload_n 0, 1) := by decide +kernel
theorem dX12_end_20 : decode cX12_end 20 = .ok (.iload_n 1, 1) := by decide +kernel
theorem dX12_end_21 : decode cX12_end 21 = .ok (.putfield 7, 3) := by decide +kernel
theorem dX12_end_24 : decode cX12_end 24 = .ok (.iconst 1, 1) := by decide +kernel
theorem dX12_end_25 : decode cX12_end 25 = .ok (.ireturn, 1) := by decide +kernel
def f_X12_end (F : Nat) (S : gk_S) (a : Nat) (p0 : Int32) : Option (Int32 × gk_S) := qk (isb S a 9) <| qv (sI S 900 a 0) fun S3 => if p0 < (0 : Int32) then (some (0, S3)) else qv (gI S3 902 a) fun x8 => if p0 ≤ x8 then (qv (sI S3 902 a p0) fun S13 => some (1, S13)) else some (0, S3)
theorem e_X12_end {X : gk_X} {F : Nat} {S : gk_S} {a : Nat} {p0 : Int32} {r : (Int32 × gk_S)} (h0 : f_X12_end F S a p0 = some r) : EvM X m_X12_end 1 0 0 [.ref a, .int p0] S (qRI r) := by
  unfold f_X12_end at h0
  refine ev_method (by decide +kernel) rfl rfl (Nat.le_of_ble_eq_true rfl) ?_
  show EvW X m_X12_end 1 0 0 0 [some (.ref a), some (.int p0)] [] S _
  refine ev_aload_n (pc := 0) (i := 0) rfl rfl rfl dX12_end_0 ?_
  refine ev_iconst (pc := 1) (v := 0) (by decide) dX12_end_1 ?_
  obtain ⟨g1, h2⟩ := qk_el h0; clear h0
  obtain ⟨S3, e4, h5⟩ := qv_el h2; clear h2
  refine yv_putI (pc := 2) fn_900 ⟨rfl, rfl⟩ (isb_el g1) e4 gw_1140 dX12_end_2 ?_
  refine ev_iload_n (pc := 5) (i := 1) rfl rfl dX12_end_5 ?_
  refine ev_if_lt (pc := 6) (tgt := 17) (by decide) dX12_end_6 (fun c6 => ?_) (fun c6 => ?_)
  · replace h5 := qi_t h5 c6
    refine ev_iconst (pc := 17) (v := 0) (by decide) dX12_end_17 ?_
    exact ev_ireturn (pc := 18) rfl rfl (by cases h5; rfl) dX12_end_18
  · replace h5 := qi_f h5 c6
    refine ev_iload_n (pc := 9) (i := 1) rfl rfl dX12_end_9 ?_
    refine ev_aload_n (pc := 10) (i := 0) rfl rfl rfl dX12_end_10 ?_
    obtain ⟨x8, e9, h10⟩ := qv_el h5; clear h5
    refine xv_getIv (pc := 11) fn_902 (is_sI (isb_el g1) e4) e9 gw_1142 dX12_end_11 ?_
    refine ev_ic_le (pc := 14) (tgt := 19) (by decide) dX12_end_14 (fun c11 => ?_) (fun c11 => ?_)
    · replace h10 := qi_t h10 c11
      refine ev_aload_n (pc := 19) (i := 0) rfl rfl rfl dX12_end_19 ?_
      refine ev_iload_n (pc := 20) (i := 1) rfl rfl dX12_end_20 ?_
      obtain ⟨S13, e14, h15⟩ := qv_el h10; clear h10
      refine yv_putI (pc := 21) fn_902 ⟨rfl, rfl⟩ (is_sI (isb_el g1) e4) e14 gw_1142 dX12_end_21 ?_
      refine ev_iconst (pc := 24) (v := 1) (by decide) dX12_end_24 ?_
      exact ev_ireturn (pc := 25) rfl rfl (by cases h15; rfl) dX12_end_25
    · replace h10 := qi_f h10 c11
      refine ev_iconst (pc := 17) (v := 0) (by decide) dX12_end_17 ?_
      exact ev_ireturn (pc := 18) rfl rfl (by cases h10; rfl) dX12_end_18
theorem dX6_clear_0 : decode cX6_clear 0 = .ok (.aload_n 0, 1) := by decide +kernel
theorem dX6_clear_1 : decode cX6_clear 1 = .ok (.iconst 0, 1) := by decide +kernel
theorem dX6_clear_2 : decode cX6_clear 2 = .ok (.putfield 18, 3) := by decide +kernel
theorem dX6_clear_5 : decode cX6_clear 5 = .ok (.aload_n 0, 1) := by decide +kernel
theorem dX6_clear_6 : decode cX6_clear 6 = .ok (.iconst 0, 1) := by decide +kernel
theorem dX6_clear_7 : decode cX6_clear 7 = .ok (.putfield 22, 3) := by decide +kernel
theorem dX6_clear_10 : decode cX6_clear 10 = .ok (.aload_n 0, 1) := by decide +kernel
theorem dX6_clear_11 : decode cX6_clear 11 = .ok (.iconst 0, 1) := by decide +kernel
theorem dX6_clear_12 : decode cX6_clear 12 = .ok (.putfield 25, 3) := by decide +kernel
theorem dX6_clear_15 : decode cX6_clear 15 = .ok (.return_, 1) := by decide +kernel
def f_X6_clear (F : Nat) (S : gk_S) (a : Nat) : Option (Unit × gk_S) := qk (isb S a 4) <| qv (sI S 401 a 0) fun S3 => qv (sI S3 402 a 0) fun S6 => qv (sI S6 403 a 0) fun S9 => some ((), S9)
theorem e_X6_clear {X : gk_X} {F : Nat} {S : gk_S} {a : Nat} {r : (Unit × gk_S)} (h0 : f_X6_clear F S a = some r) : EvM X m_X6_clear 1 0 0 [.ref a] S (qRU r) := by
  unfold f_X6_clear at h0
  refine ev_method (by decide +kernel) rfl rfl (Nat.le_of_ble_eq_true rfl) ?_
  show EvW X m_X6_clear 1 0 0 0 [some (.ref a)] [] S _
  refine ev_aload_n (pc := 0) (i := 0) rfl rfl rfl dX6_clear_0 ?_
  refine ev_iconst (pc := 1) (v := 0) (by decide) dX6_clear_1 ?_
  obtain ⟨g1, h2⟩ := qk_el h0; clear h0
  obtain ⟨S3, e4, h5⟩ := qv_el h2; clear h2
  refine yv_putI (pc := 2) fn_401 ⟨rfl, rfl⟩ (isb_el g1) e4 gw_91 dX6_clear_2 ?_
  refine ev_aload_n (pc := 5) (i := 0) rfl rfl rfl dX6_clear_5 ?_
  refine ev_iconst (pc := 6) (v := 0) (by decide) dX6_clear_6 ?_
  obtain ⟨S6, e7, h8⟩ := qv_el h5; clear h5
  refine yv_putI (pc := 7) fn_402 ⟨rfl, rfl⟩ (is_sI (isb_el g1) e4) e7 gw_96 dX6_clear_7 ?_
  refine ev_aload_n (pc := 10) (i := 0) rfl rfl rfl dX6_clear_10 ?_
  refine ev_iconst (pc := 11) (v := 0) (by decide) dX6_clear_11 ?_
  obtain ⟨S9, e10, h11⟩ := qv_el h8; clear h8
  refine yv_putI (pc := 12) fn_403 ⟨rfl, rfl⟩ (is_sI (is_sI (isb_el g1) e4) e7) e10 gw_101 dX6_clear_12 ?_
  exact ev_return (pc := 15) rfl (by cases h11; rfl) dX6_clear_15
theorem dX9_isDigit_0 : decode cX9_isDigit 0 = .ok (.iload_n 0, 1) := by decide +kernel
theorem dX9_isDigit_1 : decode cX9_isDigit 1 = .ok (.bipush 48, 2) := by decide +kernel
theorem dX9_isDigit_3 : decode cX9_isDigit 3 = .ok (.if_icmp .lt 13, 3) := by decide +kernel
theorem dX9_isDigit_6 : decode cX9_isDigit 6 = .ok (.iload_n 0, 1) := by decide +kernel
theorem dX9_isDigit_7 : decode cX9_isDigit 7 = .ok (.bipush 57, 2) := by decide +kernel
theorem dX9_isDigit_9 : decode cX9_isDigit 9 = .ok (.if_icmp .gt 7, 3) := by decide +kernel
theorem dX9_isDigit_12 : decode cX9_isDigit 12 = .ok (.iconst 1, 1) := by decide +kernel
theorem dX9_isDigit_13 : decode cX9_isDigit 13 = .ok (.goto 4, 3) := by decide +kernel
theorem dX9_isDigit_16 : decode cX9_isDigit 16 = .ok (.iconst 0, 1) := by decide +kernel
theorem dX9_isDigit_17 : decode cX9_isDigit 17 = .ok (.ireturn, 1) := by decide +kernel
def f_X9_isDigit (F : Nat) (S : gk_S) (p0 : Int32) : Option (Int32 × gk_S) := if p0 < (48 : Int32) then (some (0, S)) else if (57 : Int32) < p0 then (some (0, S)) else some (1, S)
theorem e_X9_isDigit {X : gk_X} {F : Nat} {S : gk_S} {p0 : Int32} {r : (Int32 × gk_S)} (h0 : f_X9_isDigit F S p0 = some r) : EvM X m_X9_isDigit 1 0 0 [.int p0] S (qRI r) := by
  unfold f_X9_isDigit at h0
  refine ev_method (by decide +kernel) rfl rfl (Nat.le_of_ble_eq_true rfl) ?_
  show EvW X m_X9_isDigit 1 0 0 0 [some (.int p0)] [] S _
  refine ev_iload_n (pc := 0) (i := 0) rfl rfl dX9_isDigit_0 ?_
  refine ev_bipush (pc := 1) (v := 48) (by decide) dX9_isDigit_1 ?_
  refine ev_ic_lt (pc := 3) (tgt := 16) (by decide) dX9_isDigit_3 (fun c1 => ?_) (fun c1 => ?_)
  · replace h0 := qi_t h0 c1
    refine ev_iconst (pc := 16) (v := 0) (by decide) dX9_isDigit_16 ?_
    exact ev_ireturn (pc := 17) rfl rfl (by cases h0; rfl) dX9_isDigit_17
  · replace h0 := qi_f h0 c1
    refine ev_iload_n (pc := 6) (i := 0) rfl rfl dX9_isDigit_6 ?_
    refine ev_bipush (pc := 7) (v := 57) (by decide) dX9_isDigit_7 ?_
    refine ev_ic_gt (pc := 9) (tgt := 16) (by decide) dX9_isDigit_9 (fun c3 => ?_) (fun c3 => ?_)
    · replace h0 := qi_t h0 c3
      refine ev_iconst (pc := 16) (v := 0) (by decide) dX9_isDigit_16 ?_
      exact ev_ireturn (pc := 17) rfl rfl (by cases h0; rfl) dX9_isDigit_17
    · replace h0 := qi_f h0 c3
      refine ev_iconst (pc := 12) (v := 1) (by decide) dX9_isDigit_12 ?_
      refine ev_goto (pc := 13) (tgt := 17) (by decide) dX9_isDigit_13 ?_
      exact ev_ireturn (pc := 17) rfl rfl (by cases h0; rfl) dX9_isDigit_17
theorem dX9_isLetterOrDigit_0 : decode cX9_isLetterOrDigit 0 = .ok (.iload_n 0, 1) := by decide +kernel
theorem dX9_isLetterOrDigit_1 : decode cX9_isLetterOrDigit 1 = .ok (.invokestatic 185, 3) := by decide +kernel
theorem dX9_isLetterOrDigit_4 : decode cX9_isLetterOrDigit 4 = .ok (.ifCond .ne 15, 3) := by decide +kernel
theorem dX9_isLetterOrDigit_7 : decode cX9_isLetterOrDigit 7 = .ok (.iload_n 0, 1) := by decide +kernel
theorem dX9_isLetterOrDigit_8 : decode cX9_isLetterOrDigit 8 = .ok (.bipush 97, 2) := by decide +kernel
theorem dX9_isLetterOrDigit_10 : decode cX9_isLetterOrDigit 10 = .ok (.if_icmp .lt 13, 3) := by decide +kernel
theorem dX9_isLetterOrDigit_13 : decode cX9_isLetterOrDigit 13 = .ok (.iload_n 0, 1) := by decide +kernel
theorem dX9_isLetterOrDigit_14 : decode cX9_isLetterOrDigit 14 = .ok (.bipush 122, 2) := by decide +kernel
theorem dX9_isLetterOrDigit_16 : decode cX9_isLetterOrDigit 16 = .ok (.if_icmp .gt 7, 3) := by decide +kernel
theorem dX9_isLetterOrDigit_19 : decode cX9_isLetterOrDigit 19 = .ok (.iconst 1, 1) := by decide +kernel
theorem dX9_isLetterOrDigit_20 : decode cX9_isLetterOrDigit 20 = .ok (.goto 4, 3) := by decide +kernel
theorem dX9_isLetterOrDigit_23 : decode cX9_isLetterOrDigit 23 = .ok (.iconst 0, 1) := by decide +kernel
theorem dX9_isLetterOrDigit_24 : decode cX9_isLetterOrDigit 24 = .ok (.ireturn, 1) := by decide +kernel
def f_X9_isLetterOrDigit (F : Nat) (S : gk_S) (p0 : Int32) : Option (Int32 × gk_S) := qc (f_X9_isDigit F S p0) fun x1 S2 => if x1 = (0 : Int32) then (if p0 < (97 : Int32) then (some (0, S2)) else if (122 : Int32) < p0 then (some (0, S2)) else some (1, S2)) else some (1, S2)
theorem e_X9_isLetterOrDigit {X : gk_X} {F : Nat} {S : gk_S} {p0 : Int32} {r : (Int32 × gk_S)} (h0 : f_X9_isLetterOrDigit F S p0 = some r) : EvM X m_X9_isLetterOrDigit 2 0 0 [.int p0] S (qRI r) := by
  unfold f_X9_isLetterOrDigit at h0
  refine ev_method (by decide +kernel) rfl rfl (Nat.le_of_ble_eq_true rfl) ?_
  show EvW X m_X9_isLetterOrDigit 2 0 0 0 [some (.int p0)] [] S _
  refine ev_iload_n (pc := 0) (i := 0) rfl rfl dX9_isLetterOrDigit_0 ?_
  obtain ⟨x1, S2, e3, h4⟩ := qc_el h0; clear h0
  refine xv_callS (pc := 1) (st := []) (as := [.int p0]) (v := (some (.int x1))) (S' := S2) ok_X9_isDigit (e_X9_isDigit e3) (by decide) rfl (Nat.le_of_ble_eq_true rfl) rfl gw_475 dX9_isLetterOrDigit_1 ?_
  refine ev_if_ne (pc := 4) (tgt := 19) (by decide) dX9_isLetterOrDigit_4 (fun c5 => ?_) (fun c5 => ?_)
  · replace h4 := qi_f h4 c5
    refine ev_iconst (pc := 19) (v := 1) (by decide) dX9_isLetterOrDigit_19 ?_
    refine ev_goto (pc := 20) (tgt := 24) (by decide) dX9_isLetterOrDigit_20 ?_
    exact ev_ireturn (pc := 24) rfl rfl (by cases h4; rfl) dX9_isLetterOrDigit_24
  · replace h4 := qi_t h4 c5
    refine ev_iload_n (pc := 7) (i := 0) rfl rfl dX9_isLetterOrDigit_7 ?_
    refine ev_bipush (pc := 8) (v := 97) (by decide) dX9_isLetterOrDigit_8 ?_
    refine ev_ic_lt (pc := 10) (tgt := 23) (by decide) dX9_isLetterOrDigit_10 (fun c7 => ?_) (fun c7 => ?_)
    · replace h4 := qi_t h4 c7
      refine ev_iconst (pc := 23) (v := 0) (by decide) dX9_isLetterOrDigit_23 ?_
      exact ev_ireturn (pc := 24) rfl rfl (by cases h4; rfl) dX9_isLetterOrDigit_24
    · replace h4 := qi_f h4 c7
      refine ev_iload_n (pc := 13) (i := 0) rfl rfl dX9_isLetterOrDigit_13 ?_
      refine ev_bipush (pc := 14) (v := 122) (by decide) dX9_isLetterOrDigit_14 ?_
      refine ev_ic_gt (pc := 16) (tgt := 23) (by decide) dX9_isLetterOrDigit_16 (fun c9 => ?_) (fun c9 => ?_)
      · replace h4 := qi_t h4 c9
        refine ev_iconst (pc := 23) (v := 0) (by decide) dX9_isLetterOrDigit_23 ?_
        exact ev_ireturn (pc := 24) rfl rfl (by cases h4; rfl) dX9_isLetterOrDigit_24
      · replace h4 := qi_f h4 c9
        refine ev_iconst (pc := 19) (v := 1) (by decide) dX9_isLetterOrDigit_19 ?_
        refine ev_goto (pc := 20) (tgt := 24) (by decide) dX9_isLetterOrDigit_20 ?_
        exact ev_ireturn (pc := 24) rfl rfl (by cases h4; rfl) dX9_isLetterOrDigit_24
theorem dX9_numberBetween_0 : decode cX9_numberBetween 0 = .ok (.iconst 0, 1) := by decide +kernel
theorem dX9_numberBetween_1 : decode cX9_numberBetween 1 = .ok (.istore_n 3, 1) := by decide +kernel
theorem dX9_numberBetween_2 : decode cX9_numberBetween 2 = .ok (.iload_n 1, 1) := by decide +kernel
theorem dX9_numberBetween_3 : decode cX9_numberBetween 3 = .ok (.istore 4, 2) := by decide +kernel
theorem dX9_numberBetween_5 : decode cX9_numberBetween 5 = .ok (.iload 4, 2) := by decide +kernel
theorem dX9_numberBetween_7 : decode cX9_numberBetween 7 = .ok (.iload_n 2, 1) := by decide +kernel
theorem dX9_numberBetween_8 : decode cX9_numberBetween 8 = .ok (.if_icmp .ge 27, 3) := by decide +kernel
theorem dX9_numberBetween_11 : decode cX9_numberBetween 11 = .ok (.iload_n 3, 1) := by decide +kernel
theorem dX9_numberBetween_12 : decode cX9_numberBetween 12 = .ok (.bipush 10, 2) := by decide +kernel
theorem dX9_numberBetween_14 : decode cX9_numberBetween 14 = .ok (.imul, 1) := by decide +kernel
theorem dX9_numberBetween_15 : decode cX9_numberBetween 15 = .ok (.aload_n 0, 1) := by decide +kernel
theorem dX9_numberBetween_16 : decode cX9_numberBetween 16 = .ok (.getfield 9, 3) := by decide +kernel
theorem dX9_numberBetween_19 : decode cX9_numberBetween 19 = .ok (.iload 4, 2) := by decide +kernel
theorem dX9_numberBetween_21 : decode cX9_numberBetween 21 = .ok (.invokevirtual 166, 3) := by decide +kernel
theorem dX9_numberBetween_24 : decode cX9_numberBetween 24 = .ok (.iadd, 1) := by decide +kernel
theorem dX9_numberBetween_25 : decode cX9_numberBetween 25 = .ok (.bipush 48, 2) := by decide +kernel
theorem dX9_numberBetween_27 : decode cX9_numberBetween 27 = .ok (.isub, 1) := by decide +kernel
theorem dX9_numberBetween_28 : decode cX9_numberBetween 28 = .ok (.istore_n 3, 1) := by decide +kernel
theorem dX9_numberBetween_29 : decode cX9_numberBetween 29 = .ok (.iinc 4 1, 3) := by decide +kernel
theorem dX9_numberBetween_32 : decode cX9_numberBetween 32 = .ok (.goto (-27), 3) := by decide +kernel
theorem dX9_numberBetween_35 : decode cX9_numberBetween 35 = .ok (.iload_n 3, 1) := by decide +kernel
theorem dX9_numberBetween_36 : decode cX9_numberBetween 36 = .ok (.ireturn, 1) := by decide +kernel
def f_X9_numberBetween_5 (F : Nat) : Nat → Nat → Int32 → Int32 → Int32 → gk_S → Option (Int32 × gk_S)
  | 0, _, _, _, _, _ => none
  | n + 1, l0, l2, l3, l4, S => if l2 ≤ l4 then (some (l3, S)) else qk (isb S l0 7) <| qP (gP S 700 l0) fun b5 => qk (isb S b5 1) <| qc (f_X2_at F S b5 l4) fun x10 S11 => f_X9_numberBetween_5 F n l0 l2 (((l3 * 10) + x10) - 48) (l4 + 1) S11
theorem e_X9_numberBetween_5 {X : gk_X} {F : Nat} : ∀ (n : Nat) (l0 : Nat) (l2 : Int32) (l3 : Int32) (l4 : Int32) (S : gk_S) (r : (Int32 × gk_S)), f_X9_numberBetween_5 F n l0 l2 l3 l4 S = some r → EvW X m_X9_numberBetween 2 0 0 5 [some (.ref l0), none, some (.int l2), some (.int l3), some (.int l4)] [] S (qRI r) := by
  intro n
  induction n with
  | zero => intro l0 l2 l3 l4 S r h0; rw [f_X9_numberBetween_5] at h0; cases h0
  | succ n ih =>
    intro l0 l2 l3 l4 S r h0; rw [f_X9_numberBetween_5] at h0
    refine ev_iload (pc := 5) (i := 4) rfl dX9_numberBetween_5 ?_
    refine ev_iload_n (pc := 7) (i := 2) rfl rfl dX9_numberBetween_7 ?_
    refine ev_ic_ge (pc := 8) (tgt := 35) (by decide) dX9_numberBetween_8 (fun c1 => ?_) (fun c1 => ?_)
    · replace h0 := qi_t h0 c1
      refine ev_iload_n (pc := 35) (i := 3) rfl rfl dX9_numberBetween_35 ?_
      exact ev_ireturn (pc := 36) rfl rfl (by cases h0; rfl) dX9_numberBetween_36
    · replace h0 := qi_f h0 c1
      refine ev_iload_n (pc := 11) (i := 3) rfl rfl dX9_numberBetween_11 ?_
      refine ev_bipush (pc := 12) (v := 10) (by decide) dX9_numberBetween_12 ?_
      refine ev_imul (pc := 14)  dX9_numberBetween_14 ?_
      refine ev_aload_n (pc := 15) (i := 0) rfl rfl rfl dX9_numberBetween_15 ?_
      obtain ⟨g3, h4⟩ := qk_el h0; clear h0
      obtain ⟨b5, e6, h7⟩ := qP_el h4; clear h4
      refine xv_getP (pc := 16) fn_700 (isb_el g3) e6 gw_118 dX9_numberBetween_16 ?_
      refine ev_iload (pc := 19) (i := 4) rfl dX9_numberBetween_19 ?_
      obtain ⟨g8, h9⟩ := qk_el h7; clear h7
      obtain ⟨x10, S11, e12, h13⟩ := qc_el h9; clear h9
      refine xv_callV (pc := 21) (st := [.int (l3 * 10)]) (as := [.int l4]) (v := (some (.int x10))) (S' := S11) ok_X2_at (e_X2_at e12) (isb_el g8) (by decide) rfl (Nat.le_of_ble_eq_true rfl) rfl gw_468 dX9_numberBetween_21 ?_
      refine ev_iadd (pc := 24)  dX9_numberBetween_24 ?_
      refine ev_bipush (pc := 25) (v := 48) (by decide) dX9_numberBetween_25 ?_
      refine ev_isub (pc := 27)  dX9_numberBetween_27 ?_
      refine ev_istore_n (pc := 28) (L' := [some (.ref l0), none, some (.int l2), some (.int (((l3 * 10) + x10) - 48)), some (.int l4)]) (i := 3) rfl (by decide) rfl rfl dX9_numberBetween_28 ?_
      refine ev_iinc (pc := 29) (L' := [some (.ref l0), none, some (.int l2), some (.int (((l3 * 10) + x10) - 48)), some (.int (l4 + 1))]) (i := 4) (v := (l4 + 1)) rfl rfl (by decide) rfl rfl dX9_numberBetween_29 ?_
      refine ev_goto (pc := 32) (tgt := 5) (by decide) dX9_numberBetween_32 ?_
      exact (ev_weak (qL_s (qL_n (qL_s (qL_s (qL_s qL_nil))))) (ih _ _ _ _ _ _ h13))
def f_X9_numberBetween (F : Nat) (S : gk_S) (a : Nat) (p0 : Int32) (p1 : Int32) : Option (Int32 × gk_S) := f_X9_numberBetween_5 F F a p1 0 p0 S
theorem e_X9_numberBetween {X : gk_X} {F : Nat} {S : gk_S} {a : Nat} {p0 : Int32} {p1 : Int32} {r : (Int32 × gk_S)} (h0 : f_X9_numberBetween F S a p0 p1 = some r) : EvM X m_X9_numberBetween 2 0 0 [.ref a, .int p0, .int p1] S (qRI r) := by
  unfold f_X9_numberBetween at h0
  refine ev_method (by decide +kernel) rfl rfl (Nat.le_of_ble_eq_true rfl) ?_
  show EvW X m_X9_numberBetween 2 0 0 0 [some (.ref a), some (.int p0), some (.int p1), none, none] [] S _
  refine ev_iconst (pc := 0) (v := 0) (by decide) dX9_numberBetween_0 ?_
  refine ev_istore_n (pc := 1) (L' := [some (.ref a), some (.int p0), some (.int p1), some (.int 0), none]) (i := 3) rfl (by decide) rfl rfl dX9_numberBetween_1 ?_
  refine ev_iload_n (pc := 2) (i := 1) rfl rfl dX9_numberBetween_2 ?_
  refine ev_istore (pc := 3) (L' := [some (.ref a), some (.int p0), some (.int p1), some (.int 0), some (.int p0)]) (i := 4) (by decide) rfl rfl dX9_numberBetween_3 ?_
  exact ev_weak (qL_s (qL_n (qL_s (qL_s (qL_s qL_nil))))) (e_X9_numberBetween_5 F _ _ _ _ _ _ h0)
theorem dX9_groupBetween_0 : decode cX9_groupBetween 0 = .ok (.iload_n 2, 1) := by decide +kernel
theorem dX9_groupBetween_1 : decode cX9_groupBetween 1 = .ok (.iload_n 1, 1) := by decide +kernel
theorem dX9_groupBetween_2 : decode cX9_groupBetween 2 = .ok (.if_icmp .le 10, 3) := by decide +kernel
theorem dX9_groupBetween_5 : decode cX9_groupBetween 5 = .ok (.iload_n 2, 1) := by decide +kernel
theorem dX9_groupBetween_6 : decode cX9_groupBetween 6 = .ok (.iload_n 1, 1) := by decide +kernel
theorem dX9_groupBetween_7 : decode cX9_groupBetween 7 = .ok (.isub, 1) := by decide +kernel
theorem dX9_groupBetween_8 : decode cX9_groupBetween 8 = .ok (.iconst 3, 1) := by decide +kernel
theorem dX9_groupBetween_9 : decode cX9_groupBetween 9 = .ok (.if_icmp .le 5, 3) := by decide +kernel
theorem dX9_groupBetween_12 : decode cX9_groupBetween 12 = .ok (.iconst (-1), 1) := by decide +kernel
theorem dX9_groupBetween_13 : decode cX9_groupBetween 13 = .ok (.ireturn, 1) := by decide +kernel
theorem dX9_groupBetween_14 : decode cX9_groupBetween 14 = .ok (.iload_n 1, 1) := by decide +kernel
theorem dX9_groupBetween_15 : decode cX9_groupBetween 15 = .ok (.istore_n 3, 1) := by decide +kernel
theorem dX9_groupBetween_16 : decode cX9_groupBetween 16 = .ok (.iload_n 3, 1) := by decide +kernel
theorem dX9_groupBetween_17 : decode cX9_groupBetween 17 = .ok (.iload_n 2, 1) := by decide +kernel
theorem dX9_groupBetween_18 : decode cX9_groupBetween 18 = .ok (.if_icmp .ge 25, 3) := by decide +kernel
theorem dX9_groupBetween_21 : decode cX9_groupBetween 21 = .ok (.aload_n 0, 1) := by decide +kernel
theorem dX9_groupBetween_22 : decode cX9_groupBetween 22 = .ok (.getfield 9, 3) := by decide +kernel
theorem dX9_groupBetween_25 : decode cX9_groupBetween 25 = .ok (.iload_n 3, 1) := by decide +kernel
theorem dX9_groupBetween_26 : decode cX9_groupBetween 26 = .ok (.invokevirtual 166, 3) := by decide +kernel
theorem dX9_groupBetween_29 : decode cX9_groupBetween 29 = .ok (.invokestatic 185, 3) := by decide +kernel
theorem dX9_groupBetween_32 : decode cX9_groupBetween 32 = .ok (.ifCond .ne 5, 3) := by decide +kernel
theorem dX9_groupBetween_35 : decode cX9_groupBetween 35 = .ok (.iconst (-1), 1) := by decide +kernel
theorem dX9_groupBetween_36 : decode cX9_groupBetween 36 = .ok (.ireturn, 1) := by decide +kernel
theorem dX9_groupBetween_37 : decode cX9_groupBetween 37 = .ok (.iinc 3 1, 3) := by decide +kernel
theorem dX9_groupBetween_40 : decode cX9_groupBetween 40 = .ok (.goto (-24), 3) := by decide +kernel
theorem dX9_groupBetween_43 : decode cX9_groupBetween 43 = .ok (.aload_n 0, 1) := by decide +kernel
theorem dX9_groupBetween_44 : decode cX9_groupBetween 44 = .ok (.iload_n 1, 1) := by decide +kernel
theorem dX9_groupBetween_45 : decode cX9_groupBetween 45 = .ok (.iload_n 2, 1) := by decide +kernel
theorem dX9_groupBetween_46 : decode cX9_groupBetween 46 = .ok (.invokevirtual 191, 3) := by decide +kernel
theorem dX9_groupBetween_49 : decode cX9_groupBetween 49 = .ok (.istore_n 3, 1) := by decide +kernel
theorem dX9_groupBetween_50 : decode cX9_groupBetween 50 = .ok (.iload_n 3, 1) := by decide +kernel
theorem dX9_groupBetween_51 : decode cX9_groupBetween 51 = .ok (.sipush 255, 3) := by decide +kernel
theorem dX9_groupBetween_54 : decode cX9_groupBetween 54 = .ok (.if_icmp .gt 7, 3) := by decide +kernel
theorem dX9_groupBetween_57 : decode cX9_groupBetween 57 = .ok (.iload_n 3, 1) := by decide +kernel
theorem dX9_groupBetween_58 : decode cX9_groupBetween 58 = .ok (.goto 4, 3) := by decide +kernel
theorem dX9_groupBetween_61 : decode cX9_groupBetween 61 = .ok (.iconst (-1), 1) := by decide +kernel
theorem dX9_groupBetween_62 : decode cX9_groupBetween 62 = .ok (.ireturn, 1) := by decide +kernel
def f_X9_groupBetween_16 (F : Nat) : Nat → Nat → Int32 → Int32 → Int32 → gk_S → Option (Int32 × gk_S)
  | 0, _, _, _, _, _ => none
  | n + 1, l0, l1, l2, l3, S => if l2 ≤ l3 then (qk (isb S l0 7) <| qc (f_X9_numberBetween F S l0 l1 l2) fun x9 S10 => if (255 : Int32) < x9 then (some ((-1), S10)) else some (x9, S10)) else qk (isb S l0 7) <| qP (gP S 700 l0) fun b17 => qk (isb S b17 1) <| qc (f_X2_at F S b17 l3) fun x22 S23 => qc (f_X9_isDigit F S23 x22) fun x26 S27 => if x26 = (0 : Int32) then (some ((-1), S27)) else f_X9_groupBetween_16 F n l0 l1 l2 (l3 + 1) S27
theorem e_X9_groupBetween_16 {X : gk_X} {F : Nat} : ∀ (n : Nat) (l0 : Nat) (l1 : Int32) (l2 : Int32) (l3 : Int32) (S : gk_S) (r : (Int32 × gk_S)), f_X9_groupBetween_16 F n l0 l1 l2 l3 S = some r → EvW X m_X9_groupBetween 3 0 0 16 [some (.ref l0), some (.int l1), some (.int l2), some (.int l3)] [] S (qRI r) := by
  intro n
  induction n with
  | zero => intro l0 l1 l2 l3 S r h0; rw [f_X9_groupBetween_16] at h0; cases h0
  | succ n ih =>
    intro l0 l1 l2 l3 S r h0; rw [f_X9_groupBetween_16] at h0
    refine ev_iload_n (pc := 16) (i := 3) rfl rfl dX9_groupBetween_16 ?_
    refine ev_iload_n (pc := 17) (i := 2) rfl rfl dX9_groupBetween_17 ?_
    refine ev_ic_ge (pc := 18) (tgt := 43) (by decide) dX9_groupBetween_18 (fun c5 => ?_) (fun c5 => ?_)
    · replace h0 := qi_t h0 c5
      refine ev_aload_n (pc := 43) (i := 0) rfl rfl rfl dX9_groupBetween_43 ?_
      refine ev_iload_n (pc := 44) (i := 1) rfl rfl dX9_groupBetween_44 ?_
      refine ev_iload_n (pc := 45) (i := 2) rfl rfl dX9_groupBetween_45 ?_
      obtain ⟨g7, h8⟩ := qk_el h0; clear h0
      obtain ⟨x9, S10, e11, h12⟩ := qc_el h8; clear h8
      refine xv_callV (pc := 46) (st := []) (as := [.int l1, .int l2]) (v := (some (.int x9))) (S' := S10) ok_X9_numberBetween (e_X9_numberBetween e11) (isb_el g7) (by decide) rfl (Nat.le_of_ble_eq_true rfl) rfl gw_490 dX9_groupBetween_46 ?_
      refine ev_istore_n (pc := 49) (L' := [some (.ref l0), some (.int l1), some (.int l2), some (.int x9)]) (i := 3) rfl (by decide) rfl rfl dX9_groupBetween_49 ?_
      refine ev_iload_n (pc := 50) (i := 3) rfl rfl dX9_groupBetween_50 ?_
      refine ev_sipush (pc := 51) (v := 255) (by decide) dX9_groupBetween_51 ?_
      refine ev_ic_gt (pc := 54) (tgt := 61) (by decide) dX9_groupBetween_54 (fun c13 => ?_) (fun c13 => ?_)
      · replace h12 := qi_t h12 c13
        refine ev_iconst (pc := 61) (v := -1) (by decide) dX9_groupBetween_61 ?_
        exact ev_ireturn (pc := 62) rfl rfl (by cases h12; rfl) dX9_groupBetween_62
      · replace h12 := qi_f h12 c13
        refine ev_iload_n (pc := 57) (i := 3) rfl rfl dX9_groupBetween_57 ?_
        refine ev_goto (pc := 58) (tgt := 62) (by decide) dX9_groupBetween_58 ?_
        exact ev_ireturn (pc := 62) rfl rfl (by cases h12; rfl) dX9_groupBetween_62
    · replace h0 := qi_f h0 c5
      refine ev_aload_n (pc := 21) (i := 0) rfl rfl rfl dX9_groupBetween_21 ?_
      obtain ⟨g15, h16⟩ := qk_el h0; clear h0
      obtain ⟨b17, e18, h19⟩ := qP_el h16; clear h16
      refine xv_getP (pc := 22) fn_700 (isb_el g15) e18 gw_118 dX9_groupBetween_22 ?_
      refine ev_iload_n (pc := 25) (i := 3) rfl rfl dX9_groupBetween_25 ?_
      obtain ⟨g20, h21⟩ := qk_el h19; clear h19
      obtain ⟨x22, S23, e24, h25⟩ := qc_el h21; clear h21
      refine xv_callV (pc := 26) (st := []) (as := [.int l3]) (v := (some (.int x22))) (S' := S23) ok_X2_at (e_X2_at e24) (isb_el g20) (by decide) rfl (Nat.le_of_ble_eq_true rfl) rfl gw_468 dX9_groupBetween_26 ?_
      obtain ⟨x26, S27, e28, h29⟩ := qc_el h25; clear h25
      refine xv_callS (pc := 29) (st := []) (as := [.int x22]) (v := (some (.int x26))) (S' := S27) ok_X9_isDigit (e_X9_isDigit e28) (by decide) rfl (Nat.le_of_ble_eq_true rfl) rfl gw_475 dX9_groupBetween_29 ?_
      refine ev_if_ne (pc := 32) (tgt := 37) (by decide) dX9_groupBetween_32 (fun c30 => ?_) (fun c30 => ?_)
      · replace h29 := qi_f h29 c30
        refine ev_iinc (pc := 37) (L' := [some (.ref l0), some (.int l1), some (.int l2), some (.int (l3 + 1))]) (i := 3) (v := (l3 + 1)) rfl rfl (by decide) rfl rfl dX9_groupBetween_37 ?_
        refine ev_goto (pc := 40) (tgt := 16) (by decide) dX9_groupBetween_40 ?_
        exact (ev_weak (qL_s (qL_s (qL_s (qL_s qL_nil)))) (ih _ _ _ _ _ _ h29))
      · replace h29 := qi_t h29 c30
        refine ev_iconst (pc := 35) (v := -1) (by decide) dX9_groupBetween_35 ?_
        exact ev_ireturn (pc := 36) rfl rfl (by cases h29; rfl) dX9_groupBetween_36
def f_X9_groupBetween (F : Nat) (S : gk_S) (a : Nat) (p0 : Int32) (p1 : Int32) : Option (Int32 × gk_S) := if p1 ≤ p0 then (some ((-1), S)) else if (p1 - p0) ≤ (3 : Int32) then (f_X9_groupBetween_16 F F a p0 p1 p0 S) else some ((-1), S)
theorem e_X9_groupBetween {X : gk_X} {F : Nat} {S : gk_S} {a : Nat} {p0 : Int32} {p1 : Int32} {r : (Int32 × gk_S)} (h0 : f_X9_groupBetween F S a p0 p1 = some r) : EvM X m_X9_groupBetween 3 0 0 [.ref a, .int p0, .int p1] S (qRI r) := by
  unfold f_X9_groupBetween at h0
  refine ev_method (by decide +kernel) rfl rfl (Nat.le_of_ble_eq_true rfl) ?_
  show EvW X m_X9_groupBetween 3 0 0 0 [some (.ref a), some (.int p0), some (.int p1), none] [] S _
  refine ev_iload_n (pc := 0) (i := 2) rfl rfl dX9_groupBetween_0 ?_
  refine ev_iload_n (pc := 1) (i := 1) rfl rfl dX9_groupBetween_1 ?_
  refine ev_ic_le (pc := 2) (tgt := 12) (by decide) dX9_groupBetween_2 (fun c1 => ?_) (fun c1 => ?_)
  · replace h0 := qi_t h0 c1
    refine ev_iconst (pc := 12) (v := -1) (by decide) dX9_groupBetween_12 ?_
    exact ev_ireturn (pc := 13) rfl rfl (by cases h0; rfl) dX9_groupBetween_13
  · replace h0 := qi_f h0 c1
    refine ev_iload_n (pc := 5) (i := 2) rfl rfl dX9_groupBetween_5 ?_
    refine ev_iload_n (pc := 6) (i := 1) rfl rfl dX9_groupBetween_6 ?_
    refine ev_isub (pc := 7)  dX9_groupBetween_7 ?_
    refine ev_iconst (pc := 8) (v := 3) (by decide) dX9_groupBetween_8 ?_
    refine ev_ic_le (pc := 9) (tgt := 14) (by decide) dX9_groupBetween_9 (fun c3 => ?_) (fun c3 => ?_)
    · replace h0 := qi_t h0 c3
      refine ev_iload_n (pc := 14) (i := 1) rfl rfl dX9_groupBetween_14 ?_
      refine ev_istore_n (pc := 15) (L' := [some (.ref a), some (.int p0), some (.int p1), some (.int p0)]) (i := 3) rfl (by decide) rfl rfl dX9_groupBetween_15 ?_
      exact ev_weak (qL_s (qL_s (qL_s (qL_s qL_nil)))) (e_X9_groupBetween_16 F _ _ _ _ _ _ h0)
    · replace h0 := qi_f h0 c3
      refine ev_iconst (pc := 12) (v := -1) (by decide) dX9_groupBetween_12 ?_
      exact ev_ireturn (pc := 13) rfl rfl (by cases h0; rfl) dX9_groupBetween_13
theorem dX9_readAddress_0 : decode cX9_readAddress 0 = .ok (.aload_n 0, 1) := by decide +kernel
theorem dX9_readAddress_1 : decode cX9_readAddress 1 = .ok (.getfield 28, 3) := by decide +kernel
theorem dX9_readAddress_4 : decode cX9_readAddress 4 = .ok (.aload_n 0, 1) := by decide +kernel
theorem dX9_readAddress_5 : decode cX9_readAddress 5 = .ok (.getfield 9, 3) := by decide +kernel
theorem dX9_readAddress_8 : decode cX9_readAddress 8 = .ok (.getfield 174, 3) := by decide +kernel
theorem dX9_readAddress_11 : decode cX9_readAddress 11 = .ok (.if_icmp .ge 49, 3) := by decide +kernel
theorem dX9_readAddress_14 : decode cX9_readAddress 14 = .ok (.aload_n 0, 1) := by decide +kernel
theorem dX9_readAddress_15 : decode cX9_readAddress 15 = .ok (.getfield 9, 3) := by decide +kernel
theorem dX9_readAddress_18 : decode cX9_readAddress 18 = .ok (.aload_n 0, 1) := by decide +kernel
theorem dX9_readAddress_19 : decode cX9_readAddress 19 = .ok (.getfield 28, 3) := by decide +kernel
theorem dX9_readAddress_22 : decode cX9_readAddress 22 = .ok (.invokevirtual 166, 3) := by decide +kernel
theorem dX9_readAddress_25 : decode cX9_readAddress 25 = .ok (.invokestatic 175, 3) := by decide +kernel
theorem dX9_readAddress_28 : decode cX9_readAddress 28 = .ok (.ifCond .ne 19, 3) := by decide +kernel
theorem dX9_readAddress_31 : decode cX9_readAddress 31 = .ok (.aload_n 0, 1) := by decide +kernel
theorem dX9_readAddress_32 : decode cX9_readAddress 32 = .ok (.getfield 9, 3) := by decide +kernel
theorem dX9_readAddress_35 : decode cX9_readAddress 35 = .ok (.aload_n 0, 1) := by decide +kernel
theorem dX9_readAddress_36 : decode cX9_readAddress 36 = .ok (.getfield 28, 3) := by decide +kernel
theorem dX9_readAddress_39 : decode cX9_readAddress 39 = .ok (.invokevirtual 166, 3) := by decide +kernel
theorem dX9_readAddress_42 : decode cX9_readAddress 42 = .ok (.bipush 46, 2) := by decide +kernel
theorem dX9_readAddress_44 : decode cX9_readAddress 44 = .ok (.if_icmp .ne 16, 3) := by decide +kernel
theorem dX9_readAddress_47 : decode cX9_readAddress 47 = .ok (.aload_n 0, 1) := by decide +kernel
theorem dX9_readAddress_48 : decode cX9_readAddress 48 = .ok (.dup, 1) := by decide +kernel
theorem dX9_readAddress_49 : decode cX9_readAddress 49 = .ok (.getfield 28, 3) := by decide +kernel
theorem dX9_readAddress_52 : decode cX9_readAddress 52 = .ok (.iconst 1, 1) := by decide +kernel
theorem dX9_readAddress_53 : decode cX9_readAddress 53 = .ok (.iadd, 1) := by decide +kernel
theorem dX9_readAddress_54 : decode cX9_readAddress 54 = .ok (.putfield 28, 3) := by decide +kernel
theorem dX9_readAddress_57 : decode cX9_readAddress 57 = .ok (.goto (-57), 3) := by decide +kernel
theorem dX9_readAddress_60 : decode cX9_readAddress 60 = .ok (.aload_n 0, 1) := by decide +kernel
theorem dX9_readAddress_61 : decode cX9_readAddress 61 = .ok (.sipush 260, 3) := by decide +kernel
theorem dX9_readAddress_64 : decode cX9_readAddress 64 = .ok (.putfield 22, 3) := by decide +kernel
theorem dX9_readAddress_67 : decode cX9_readAddress 67 = .ok (.iconst 0, 1) := by decide +kernel
theorem dX9_readAddress_68 : decode cX9_readAddress 68 = .ok (.istore_n 1, 1) := by decide +kernel
theorem dX9_readAddress_69 : decode cX9_readAddress 69 = .ok (.aload_n 0, 1) := by decide +kernel
theorem dX9_readAddress_70 : decode cX9_readAddress 70 = .ok (.getfield 25, 3) := by decide +kernel
theorem dX9_readAddress_73 : decode cX9_readAddress 73 = .ok (.istore_n 2, 1) := by decide +kernel
theorem dX9_readAddress_74 : decode cX9_readAddress 74 = .ok (.aload_n 0, 1) := by decide +kernel
theorem dX9_readAddress_75 : decode cX9_readAddress 75 = .ok (.getfield 25, 3) := by decide +kernel
theorem dX9_readAddress_78 : decode cX9_readAddress 78 = .ok (.istore_n 3, 1) := by decide +kernel
theorem dX9_readAddress_79 : decode cX9_readAddress 79 = .ok (.iload_n 3, 1) := by decide +kernel
theorem dX9_readAddress_80 : decode cX9_readAddress 80 = .ok (.aload_n 0, 1) := by decide +kernel
theorem dX9_readAddress_81 : decode cX9_readAddress 81 = .ok (.getfield 28, 3) := by decide +kernel
theorem dX9_readAddress_84 : decode cX9_readAddress 84 = .ok (.if_icmp .gt 73, 3) := by decide +kernel
theorem dX9_readAddress_87 : decode cX9_readAddress 87 = .ok (.iload_n 3, 1) := by decide +kernel
theorem dX9_readAddress_88 : decode cX9_readAddress 88 = .ok (.aload_n 0, 1) := by decide +kernel
theorem dX9_readAddress_89 : decode cX9_readAddress 89 = .ok (.getfield 28, 3) := by decide +kernel
theorem dX9_readAddress_92 : decode cX9_readAddress 92 = .ok (.if_icmp .eq 16, 3) := by decide +kernel
theorem dX9_readAddress_95 : decode cX9_readAddress 95 = .ok (.aload_n 0, 1) := by decide +kernel
theorem dX9_readAddress_96 : decode cX9_readAddress 96 = .ok (.getfield 9, 3) := by decide +kernel
theorem dX9_readAddress_99 : decode cX9_readAddress 99 = .ok (.iload_n 3, 1) := by decide +kernel
theorem dX9_readAddress_100 : decode cX9_readAddress 100 = .ok (.invokevirtual 166, 3) := by decide +kernel
theorem dX9_readAddress_103 : decode cX9_readAddress 103 = .ok (.bipush 46, 2) := by decide +kernel
theorem dX9_readAddress_105 : decode cX9_readAddress 105 = .ok (.if_icmp .ne 46, 3) := by decide +kernel
theorem dX9_readAddress_108 : decode cX9_readAddress 108 = .ok (.aload_n 0, 1) := by decide +kernel
theorem dX9_readAddress_109 : decode cX9_readAddress 109 = .ok (.iload_n 2, 1) := by decide +kernel
theorem dX9_readAddress_110 : decode cX9_readAddress 110 = .ok (.iload_n 3, 1) := by decide +kernel
theorem dX9_readAddress_111 : decode cX9_readAddress 111 = .ok (.invokevirtual 195, 3) := by decide +kernel
theorem dX9_readAddress_114 : decode cX9_readAddress 114 = .ok (.istore 4, 2) := by decide +kernel
theorem dX9_readAddress_116 : decode cX9_readAddress 116 = .ok (.iload 4, 2) := by decide +kernel
theorem dX9_readAddress_118 : decode cX9_readAddress 118 = .ok (.iconst (-1), 1) := by decide +kernel
theorem dX9_readAddress_119 : decode cX9_readAddress 119 = .ok (.if_icmp .eq 8, 3) := by decide +kernel
theorem dX9_readAddress_122 : decode cX9_readAddress 122 = .ok (.iload_n 1, 1) := by decide +kernel
theorem dX9_readAddress_123 : decode cX9_readAddress 123 = .ok (.iconst 4, 1) := by decide +kernel
theorem dX9_readAddress_124 : decode cX9_readAddress 124 = .ok (.if_icmp .ne 4, 3) := by decide +kernel
theorem dX9_readAddress_127 : decode cX9_readAddress 127 = .ok (.return_, 1) := by decide +kernel
theorem dX9_readAddress_128 : decode cX9_readAddress 128 = .ok (.aload_n 0, 1) := by decide +kernel
theorem dX9_readAddress_129 : decode cX9_readAddress 129 = .ok (.aload_n 0, 1) := by decide +kernel
theorem dX9_readAddress_130 : decode cX9_readAddress 130 = .ok (.getfield 31, 3) := by decide +kernel
theorem dX9_readAddress_133 : decode cX9_readAddress 133 = .ok (.ldc2_w 198, 3) := by decide +kernel
theorem dX9_readAddress_136 : decode cX9_readAddress 136 = .ok (.lmul, 1) := by decide +kernel
theorem dX9_readAddress_137 : decode cX9_readAddress 137 = .ok (.iload 4, 2) := by decide +kernel
theorem dX9_readAddress_139 : decode cX9_readAddress 139 = .ok (.i2l, 1) := by decide +kernel
theorem dX9_readAddress_140 : decode cX9_readAddress 140 = .ok (.ladd, 1) := by decide +kernel
theorem dX9_readAddress_141 : decode cX9_readAddress 141 = .ok (.putfield 31, 3) := by decide +kernel
theorem dX9_readAddress_144 : decode cX9_readAddress 144 = .ok (.iinc 1 1, 3) := by decide +kernel
theorem dX9_readAddress_147 : decode cX9_readAddress 147 = .ok (.iload_n 3, 1) := by decide +kernel
theorem dX9_readAddress_148 : decode cX9_readAddress 148 = .ok (.iconst 1, 1) := by decide +kernel
theorem dX9_readAddress_149 : decode cX9_readAddress 149 = .ok (.iadd, 1) := by decide +kernel
theorem dX9_readAddress_150 : decode cX9_readAddress 150 = .ok (.istore_n 2, 1) := by decide +kernel
theorem dX9_readAddress_151 : decode cX9_readAddress 151 = .ok (.iinc 3 1, 3) := by decide +kernel
theorem dX9_readAddress_154 : decode cX9_readAddress 154 = .ok (.goto (-75), 3) := by decide +kernel
theorem dX9_readAddress_157 : decode cX9_readAddress 157 = .ok (.iload_n 1, 1) := by decide +kernel
theorem dX9_readAddress_158 : decode cX9_readAddress 158 = .ok (.iconst 4, 1) := by decide +kernel
theorem dX9_readAddress_159 : decode cX9_readAddress 159 = .ok (.if_icmp .ne 10, 3) := by decide +kernel
theorem dX9_readAddress_162 : decode cX9_readAddress 162 = .ok (.aload_n 0, 1) := by decide +kernel
theorem dX9_readAddress_163 : decode cX9_readAddress 163 = .ok (.sipush 259, 3) := by decide +kernel
theorem dX9_readAddress_166 : decode cX9_readAddress 166 = .ok (.putfield 22, 3) := by decide +kernel
theorem dX9_readAddress_169 : decode cX9_readAddress 169 = .ok (.return_, 1) := by decide +kernel
def f_X9_readAddress_108 (F : Nat) (k79 : Nat → Int32 → Int32 → Int32 → gk_S → Option (Unit × gk_S)) (l0 : Nat) (l1 : Int32) (l2 : Int32) (l3 : Int32) (S : gk_S) : Option (Unit × gk_S) := qk (isb S l0 7) <| qc (f_X9_groupBetween F S l0 l2 l3) fun x46 S47 => if x46 = ((-1) : Int32) then (some ((), S47)) else if l1 = (4 : Int32) then (some ((), S47)) else qk (isb S47 l0 7) <| qv (gJ S47 706 l0) fun x56 => qv (sJ S47 706 l0 ((x56 * 256) + ((x46 : Int32).toInt64))) fun S59 => k79 l0 (l1 + 1) (l3 + 1) (l3 + 1) S59
theorem e_X9_readAddress_108 {X : gk_X} {F : Nat} {k79 : Nat → Int32 → Int32 → Int32 → gk_S → Option (Unit × gk_S)} (hk79 : ∀ (l0 : Nat) (l1 : Int32) (l2 : Int32) (l3 : Int32) (S : gk_S) (r : (Unit × gk_S)), k79 l0 l1 l2 l3 S = some r → EvW X m_X9_readAddress 4 0 0 79 [some (.ref l0), some (.int l1), some (.int l2), some (.int l3), none] [] S (qRU r)) {l0 : Nat} {l1 : Int32} {l2 : Int32} {l3 : Int32} {S : gk_S} {r : (Unit × gk_S)} (h0 : f_X9_readAddress_108 F k79 l0 l1 l2 l3 S = some r) : EvW X m_X9_readAddress 4 0 0 108 [some (.ref l0), some (.int l1), some (.int l2), some (.int l3), none] [] S (qRU r) := by
  unfold f_X9_readAddress_108 at h0
  refine ev_aload_n (pc := 108) (i := 0) rfl rfl rfl dX9_readAddress_108 ?_
  refine ev_iload_n (pc := 109) (i := 2) rfl rfl dX9_readAddress_109 ?_
  refine ev_iload_n (pc := 110) (i := 3) rfl rfl dX9_readAddress_110 ?_
  obtain ⟨g44, h45⟩ := qk_el h0; clear h0
  obtain ⟨x46, S47, e48, h49⟩ := qc_el h45; clear h45
  refine xv_callV (pc := 111) (st := []) (as := [.int l2, .int l3]) (v := (some (.int x46))) (S' := S47) ok_X9_groupBetween (e_X9_groupBetween e48) (isb_el g44) (by decide) rfl (Nat.le_of_ble_eq_true rfl) rfl gw_486 dX9_readAddress_111 ?_
  refine ev_istore (pc := 114) (L' := [some (.ref l0), some (.int l1), some (.int l2), some (.int l3), some (.int x46)]) (i := 4) (by decide) rfl rfl dX9_readAddress_114 ?_
  refine ev_iload (pc := 116) (i := 4) rfl dX9_readAddress_116 ?_
  refine ev_iconst (pc := 118) (v := -1) (by decide) dX9_readAddress_118 ?_
  refine ev_ic_eq (pc := 119) (tgt := 127) (by decide) dX9_readAddress_119 (fun c50 => ?_) (fun c50 => ?_)
  · replace h49 := qi_t h49 c50
    exact ev_return (pc := 127) rfl (by cases h49; rfl) dX9_readAddress_127
  · replace h49 := qi_f h49 c50
    refine ev_iload_n (pc := 122) (i := 1) rfl rfl dX9_readAddress_122 ?_
    refine ev_iconst (pc := 123) (v := 4) (by decide) dX9_readAddress_123 ?_
    refine ev_ic_ne (pc := 124) (tgt := 128) (by decide) dX9_readAddress_124 (fun c52 => ?_) (fun c52 => ?_)
    · replace h49 := qi_f h49 c52
      refine ev_aload_n (pc := 128) (i := 0) rfl rfl rfl dX9_readAddress_128 ?_
      refine ev_aload_n (pc := 129) (i := 0) rfl rfl rfl dX9_readAddress_129 ?_
      obtain ⟨g54, h55⟩ := qk_el h49; clear h49
      obtain ⟨x56, e57, h58⟩ := qv_el h55; clear h55
      refine xv_getJv (pc := 130) fn_706 (isb_el g54) e57 gw_126 dX9_readAddress_130 ?_
      refine ev_ldc2 (pc := 133) (v := 256) gw_494 dX9_readAddress_133 ?_
      refine ev_lmul (pc := 136)  dX9_readAddress_136 ?_
      refine ev_iload (pc := 137) (i := 4) rfl dX9_readAddress_137 ?_
      refine ev_i2l (pc := 139)  dX9_readAddress_139 ?_
      refine ev_ladd (pc := 140)  dX9_readAddress_140 ?_
      obtain ⟨S59, e60, h61⟩ := qv_el h58; clear h58
      refine yv_putJ (pc := 141) fn_706 (isb_el g54) e60 gw_126 dX9_readAddress_141 ?_
      refine ev_iinc (pc := 144) (L' := [some (.ref l0), some (.int (l1 + 1)), some (.int l2), some (.int l3), some (.int x46)]) (i := 1) (v := (l1 + 1)) rfl rfl (by decide) rfl rfl dX9_readAddress_144 ?_
      refine ev_iload_n (pc := 147) (i := 3) rfl rfl dX9_readAddress_147 ?_
      refine ev_iconst (pc := 148) (v := 1) (by decide) dX9_readAddress_148 ?_
      refine ev_iadd (pc := 149)  dX9_readAddress_149 ?_
      refine ev_istore_n (pc := 150) (L' := [some (.ref l0), some (.int (l1 + 1)), some (.int (l3 + 1)), some (.int l3), some (.int x46)]) (i := 2) rfl (by decide) rfl rfl dX9_readAddress_150 ?_
      refine ev_iinc (pc := 151) (L' := [some (.ref l0), some (.int (l1 + 1)), some (.int (l3 + 1)), some (.int (l3 + 1)), some (.int x46)]) (i := 3) (v := (l3 + 1)) rfl rfl (by decide) rfl rfl dX9_readAddress_151 ?_
      refine ev_goto (pc := 154) (tgt := 79) (by decide) dX9_readAddress_154 ?_
      exact ev_weak (qL_s (qL_s (qL_s (qL_s (qL_n qL_nil))))) (hk79 _ _ _ _ _ _ h61)
    · replace h49 := qi_t h49 c52
      exact ev_return (pc := 127) rfl (by cases h49; rfl) dX9_readAddress_127
def f_X9_readAddress_79 (F : Nat) : Nat → Nat → Int32 → Int32 → Int32 → gk_S → Option (Unit × gk_S)
  | 0, _, _, _, _, _ => none
  | n + 1, l0, l1, l2, l3, S => qk (isb S l0 7) <| qv (gI S 705 l0) fun x29 => if x29 < l3 then (if l1 = (4 : Int32) then (qv (sI S 703 l0 259) fun S36 => some ((), S36)) else some ((), S)) else qv (gI S 705 l0) fun x39 => if l3 = x39 then (f_X9_readAddress_108 F (f_X9_readAddress_79 F n) l0 l1 l2 l3 S) else qP (gP S 700 l0) fun b62 => qk (isb S b62 1) <| qc (f_X2_at F S b62 l3) fun x67 S68 => if x67 = (46 : Int32) then (f_X9_readAddress_108 F (f_X9_readAddress_79 F n) l0 l1 l2 l3 S68) else f_X9_readAddress_79 F n l0 l1 l2 (l3 + 1) S68
theorem e_X9_readAddress_79 {X : gk_X} {F : Nat} : ∀ (n : Nat) (l0 : Nat) (l1 : Int32) (l2 : Int32) (l3 : Int32) (S : gk_S) (r : (Unit × gk_S)), f_X9_readAddress_79 F n l0 l1 l2 l3 S = some r → EvW X m_X9_readAddress 4 0 0 79 [some (.ref l0), some (.int l1), some (.int l2), some (.int l3), none] [] S (qRU r) := by
  intro n
  induction n with
  | zero => intro l0 l1 l2 l3 S r h0; rw [f_X9_readAddress_79] at h0; cases h0
  | succ n ih =>
    intro l0 l1 l2 l3 S r h0; rw [f_X9_readAddress_79] at h0
    refine ev_iload_n (pc := 79) (i := 3) rfl rfl dX9_readAddress_79 ?_
    refine ev_aload_n (pc := 80) (i := 0) rfl rfl rfl dX9_readAddress_80 ?_
    obtain ⟨g27, h28⟩ := qk_el h0; clear h0
    obtain ⟨x29, e30, h31⟩ := qv_el h28; clear h28
    refine xv_getIv (pc := 81) fn_705 (isb_el g27) e30 gw_125 dX9_readAddress_81 ?_
    refine ev_ic_gt (pc := 84) (tgt := 157) (by decide) dX9_readAddress_84 (fun c32 => ?_) (fun c32 => ?_)
    · replace h31 := qi_t h31 c32
      refine ev_iload_n (pc := 157) (i := 1) rfl rfl dX9_readAddress_157 ?_
      refine ev_iconst (pc := 158) (v := 4) (by decide) dX9_readAddress_158 ?_
      refine ev_ic_ne (pc := 159) (tgt := 169) (by decide) dX9_readAddress_159 (fun c34 => ?_) (fun c34 => ?_)
      · replace h31 := qi_f h31 c34
        exact ev_return (pc := 169) rfl (by cases h31; rfl) dX9_readAddress_169
      · replace h31 := qi_t h31 c34
        refine ev_aload_n (pc := 162) (i := 0) rfl rfl rfl dX9_readAddress_162 ?_
        refine ev_sipush (pc := 163) (v := 259) (by decide) dX9_readAddress_163 ?_
        obtain ⟨S36, e37, h38⟩ := qv_el h31; clear h31
        refine yv_putI (pc := 166) fn_703 ⟨rfl, rfl⟩ (isb_el g27) e37 gw_123 dX9_readAddress_166 ?_
        exact ev_return (pc := 169) rfl (by cases h38; rfl) dX9_readAddress_169
    · replace h31 := qi_f h31 c32
      refine ev_iload_n (pc := 87) (i := 3) rfl rfl dX9_readAddress_87 ?_
      refine ev_aload_n (pc := 88) (i := 0) rfl rfl rfl dX9_readAddress_88 ?_
      obtain ⟨x39, e40, h41⟩ := qv_el h31; clear h31
      refine xv_getIv (pc := 89) fn_705 (isb_el g27) e40 gw_125 dX9_readAddress_89 ?_
      refine ev_ic_eq (pc := 92) (tgt := 108) (by decide) dX9_readAddress_92 (fun c42 => ?_) (fun c42 => ?_)
      · replace h41 := qi_t h41 c42
        exact ev_weak (qL_s (qL_s (qL_s (qL_s (qL_n qL_nil))))) (e_X9_readAddress_108 ih h41)
      · replace h41 := qi_f h41 c42
        refine ev_aload_n (pc := 95) (i := 0) rfl rfl rfl dX9_readAddress_95 ?_
        obtain ⟨b62, e63, h64⟩ := qP_el h41; clear h41
        refine xv_getP (pc := 96) fn_700 (isb_el g27) e63 gw_118 dX9_readAddress_96 ?_
        refine ev_iload_n (pc := 99) (i := 3) rfl rfl dX9_readAddress_99 ?_
        obtain ⟨g65, h66⟩ := qk_el h64; clear h64
        obtain ⟨x67, S68, e69, h70⟩ := qc_el h66; clear h66
        refine xv_callV (pc := 100) (st := []) (as := [.int l3]) (v := (some (.int x67))) (S' := S68) ok_X2_at (e_X2_at e69) (isb_el g65) (by decide) rfl (Nat.le_of_ble_eq_true rfl) rfl gw_468 dX9_readAddress_100 ?_
        refine ev_bipush (pc := 103) (v := 46) (by decide) dX9_readAddress_103 ?_
        refine ev_ic_ne (pc := 105) (tgt := 151) (by decide) dX9_readAddress_105 (fun c71 => ?_) (fun c71 => ?_)
        · replace h70 := qi_f h70 c71
          refine ev_iinc (pc := 151) (L' := [some (.ref l0), some (.int l1), some (.int l2), some (.int (l3 + 1)), none]) (i := 3) (v := (l3 + 1)) rfl rfl (by decide) rfl rfl dX9_readAddress_151 ?_
          refine ev_goto (pc := 154) (tgt := 79) (by decide) dX9_readAddress_154 ?_
          exact (ev_weak (qL_s (qL_s (qL_s (qL_s (qL_n qL_nil))))) (ih _ _ _ _ _ _ h70))
        · replace h70 := qi_t h70 c71
          exact ev_weak (qL_s (qL_s (qL_s (qL_s (qL_n qL_nil))))) (e_X9_readAddress_108 ih h70)
def f_X9_readAddress_60 (F : Nat) (l0 : Nat) (S : gk_S) : Option (Unit × gk_S) := qk (isb S l0 7) <| qv (sI S 703 l0 260) fun S18 => qv (gI S18 704 l0) fun x21 => qv (gI S18 704 l0) fun x24 => f_X9_readAddress_79 F F l0 0 x21 x24 S18
theorem e_X9_readAddress_60 {X : gk_X} {F : Nat} {l0 : Nat} {S : gk_S} {r : (Unit × gk_S)} (h0 : f_X9_readAddress_60 F l0 S = some r) : EvW X m_X9_readAddress 4 0 0 60 [some (.ref l0), none, none, none, none] [] S (qRU r) := by
  unfold f_X9_readAddress_60 at h0
  refine ev_aload_n (pc := 60) (i := 0) rfl rfl rfl dX9_readAddress_60 ?_
  refine ev_sipush (pc := 61) (v := 260) (by decide) dX9_readAddress_61 ?_
  obtain ⟨g16, h17⟩ := qk_el h0; clear h0
  obtain ⟨S18, e19, h20⟩ := qv_el h17; clear h17
  refine yv_putI (pc := 64) fn_703 ⟨rfl, rfl⟩ (isb_el g16) e19 gw_123 dX9_readAddress_64 ?_
  refine ev_iconst (pc := 67) (v := 0) (by decide) dX9_readAddress_67 ?_
  refine ev_istore_n (pc := 68) (L' := [some (.ref l0), some (.int 0), none, none, none]) (i := 1) rfl (by decide) rfl rfl dX9_readAddress_68 ?_
  refine ev_aload_n (pc := 69) (i := 0) rfl rfl rfl dX9_readAddress_69 ?_
  obtain ⟨x21, e22, h23⟩ := qv_el h20; clear h20
  refine xv_getIv (pc := 70) fn_704 (is_sI (isb_el g16) e19) e22 gw_124 dX9_readAddress_70 ?_
  refine ev_istore_n (pc := 73) (L' := [some (.ref l0), some (.int 0), some (.int x21), none, none]) (i := 2) rfl (by decide) rfl rfl dX9_readAddress_73 ?_
  refine ev_aload_n (pc := 74) (i := 0) rfl rfl rfl dX9_readAddress_74 ?_
  obtain ⟨x24, e25, h26⟩ := qv_el h23; clear h23
  refine xv_getIv (pc := 75) fn_704 (is_sI (isb_el g16) e19) e25 gw_124 dX9_readAddress_75 ?_
  refine ev_istore_n (pc := 78) (L' := [some (.ref l0), some (.int 0), some (.int x21), some (.int x24), none]) (i := 3) rfl (by decide) rfl rfl dX9_readAddress_78 ?_
  exact ev_weak (qL_s (qL_s (qL_s (qL_s (qL_n qL_nil))))) (e_X9_readAddress_79 F _ _ _ _ _ _ h26)
def f_X9_readAddress_47 (F : Nat) (k0 : Nat → gk_S → Option (Unit × gk_S)) (l0 : Nat) (S : gk_S) : Option (Unit × gk_S) := qk (isb S l0 7) <| qv (gI S 705 l0) fun x93 => qv (sI S 705 l0 (x93 + 1)) fun S96 => k0 l0 S96
theorem e_X9_readAddress_47 {X : gk_X} {F : Nat} {k0 : Nat → gk_S → Option (Unit × gk_S)} (hk0 : ∀ (l0 : Nat) (S : gk_S) (r : (Unit × gk_S)), k0 l0 S = some r → EvW X m_X9_readAddress 4 0 0 0 [some (.ref l0), none, none, none, none] [] S (qRU r)) {l0 : Nat} {S : gk_S} {r : (Unit × gk_S)} (h0 : f_X9_readAddress_47 F k0 l0 S = some r) : EvW X m_X9_readAddress 4 0 0 47 [some (.ref l0), none, none, none, none] [] S (qRU r) := by
  unfold f_X9_readAddress_47 at h0
  refine ev_aload_n (pc := 47) (i := 0) rfl rfl rfl dX9_readAddress_47 ?_
  refine ev_dup (pc := 48) (.inr rfl) dX9_readAddress_48 ?_
  obtain ⟨g91, h92⟩ := qk_el h0; clear h0
  obtain ⟨x93, e94, h95⟩ := qv_el h92; clear h92
  refine xv_getIv (pc := 49) fn_705 (isb_el g91) e94 gw_125 dX9_readAddress_49 ?_
  refine ev_iconst (pc := 52) (v := 1) (by decide) dX9_readAddress_52 ?_
  refine ev_iadd (pc := 53)  dX9_readAddress_53 ?_
  obtain ⟨S96, e97, h98⟩ := qv_el h95; clear h95
  refine yv_putI (pc := 54) fn_705 ⟨rfl, rfl⟩ (isb_el g91) e97 gw_125 dX9_readAddress_54 ?_
  refine ev_goto (pc := 57) (tgt := 0) (by decide) dX9_readAddress_57 ?_
  exact ev_weak (qL_s (qL_n (qL_n (qL_n (qL_n qL_nil))))) (hk0 _ _ _ h98)
def f_X9_readAddress_0 (F : Nat) : Nat → Nat → gk_S → Option (Unit × gk_S)
  | 0, _, _ => none
  | n + 1, l0, S => qk (isb S l0 7) <| qv (gI S 705 l0) fun x3 => qP (gP S 700 l0) fun b6 => qk (isb S b6 1) <| qv (gI S 101 b6) fun x11 => if x11 ≤ x3 then (f_X9_readAddress_60 F l0 S) else qP (gP S 700 l0) fun b73 => qv (gI S 705 l0) fun x76 => qk (isb S b73 1) <| qc (f_X2_at F S b73 x76) fun x81 S82 => qc (f_X9_isLetterOrDigit F S82 x81) fun x85 S86 => if x85 = (0 : Int32) then (qk (isb S86 l0 7) <| qP (gP S86 700 l0) fun b101 => qv (gI S86 705 l0) fun x104 => qk (isb S86 b101 1) <| qc (f_X2_at F S86 b101 x104) fun x109 S110 => if x109 = (46 : Int32) then (f_X9_readAddress_47 F (f_X9_readAddress_0 F n) l0 S110) else f_X9_readAddress_60 F l0 S110) else f_X9_readAddress_47 F (f_X9_readAddress_0 F n) l0 S86
theorem e_X9_readAddress_0 {X : gk_X} {F : Nat} : ∀ (n : Nat) (l0 : Nat) (S : gk_S) (r : (Unit × gk_S)), f_X9_readAddress_0 F n l0 S = some r → EvW X m_X9_readAddress 4 0 0 0 [some (.ref l0), none, none, none, none] [] S (qRU r) := by
  intro n
  induction n with
  | zero => intro l0 S r h0; rw [f_X9_readAddress_0] at h0; cases h0
  | succ n ih =>
    intro l0 S r h0; rw [f_X9_readAddress_0] at h0
    refine ev_aload_n (pc := 0) (i := 0) rfl rfl rfl dX9_readAddress_0 ?_
    obtain ⟨g1, h2⟩ := qk_el h0; clear h0
    obtain ⟨x3, e4, h5⟩ := qv_el h2; clear h2
    refine xv_getIv (pc := 1) fn_705 (isb_el g1) e4 gw_125 dX9_readAddress_1 ?_
    refine ev_aload_n (pc := 4) (i := 0) rfl rfl rfl dX9_readAddress_4 ?_
    obtain ⟨b6, e7, h8⟩ := qP_el h5; clear h5
    refine xv_getP (pc := 5) fn_700 (isb_el g1) e7 gw_118 dX9_readAddress_5 ?_
    obtain ⟨g9, h10⟩ := qk_el h8; clear h8
    obtain ⟨x11, e12, h13⟩ := qv_el h10; clear h10
    refine xv_getIv (pc := 8) fn_101 (isb_el g9) e12 gw_43 dX9_readAddress_8 ?_
    refine ev_ic_ge (pc := 11) (tgt := 60) (by decide) dX9_readAddress_11 (fun c14 => ?_) (fun c14 => ?_)
    · replace h13 := qi_t h13 c14
      exact ev_weak (qL_s (qL_n (qL_n (qL_n (qL_n qL_nil))))) (e_X9_readAddress_60 h13)
    · replace h13 := qi_f h13 c14
      refine ev_aload_n (pc := 14) (i := 0) rfl rfl rfl dX9_readAddress_14 ?_
      obtain ⟨b73, e74, h75⟩ := qP_el h13; clear h13
      refine xv_getP (pc := 15) fn_700 (isb_el g1) e74 gw_118 dX9_readAddress_15 ?_
      refine ev_aload_n (pc := 18) (i := 0) rfl rfl rfl dX9_readAddress_18 ?_
      obtain ⟨x76, e77, h78⟩ := qv_el h75; clear h75
      refine xv_getIv (pc := 19) fn_705 (isb_el g1) e77 gw_125 dX9_readAddress_19 ?_
      obtain ⟨g79, h80⟩ := qk_el h78; clear h78
      obtain ⟨x81, S82, e83, h84⟩ := qc_el h80; clear h80
      refine xv_callV (pc := 22) (st := []) (as := [.int x76]) (v := (some (.int x81))) (S' := S82) ok_X2_at (e_X2_at e83) (isb_el g79) (by decide) rfl (Nat.le_of_ble_eq_true rfl) rfl gw_468 dX9_readAddress_22 ?_
      obtain ⟨x85, S86, e87, h88⟩ := qc_el h84; clear h84
      refine xv_callS (pc := 25) (st := []) (as := [.int x81]) (v := (some (.int x85))) (S' := S86) ok_X9_isLetterOrDigit (e_X9_isLetterOrDigit e87) (by decide) rfl (Nat.le_of_ble_eq_true rfl) rfl gw_472 dX9_readAddress_25 ?_
      refine ev_if_ne (pc := 28) (tgt := 47) (by decide) dX9_readAddress_28 (fun c89 => ?_) (fun c89 => ?_)
      · replace h88 := qi_f h88 c89
        exact ev_weak (qL_s (qL_n (qL_n (qL_n (qL_n qL_nil))))) (e_X9_readAddress_47 ih h88)
      · replace h88 := qi_t h88 c89
        refine ev_aload_n (pc := 31) (i := 0) rfl rfl rfl dX9_readAddress_31 ?_
        obtain ⟨g99, h100⟩ := qk_el h88; clear h88
        obtain ⟨b101, e102, h103⟩ := qP_el h100; clear h100
        refine xv_getP (pc := 32) fn_700 (isb_el g99) e102 gw_118 dX9_readAddress_32 ?_
        refine ev_aload_n (pc := 35) (i := 0) rfl rfl rfl dX9_readAddress_35 ?_
        obtain ⟨x104, e105, h106⟩ := qv_el h103; clear h103
        refine xv_getIv (pc := 36) fn_705 (isb_el g99) e105 gw_125 dX9_readAddress_36 ?_
        obtain ⟨g107, h108⟩ := qk_el h106; clear h106
        obtain ⟨x109, S110, e111, h112⟩ := qc_el h108; clear h108
        refine xv_callV (pc := 39) (st := []) (as := [.int x104]) (v := (some (.int x109))) (S' := S110) ok_X2_at (e_X2_at e111) (isb_el g107) (by decide) rfl (Nat.le_of_ble_eq_true rfl) rfl gw_468 dX9_readAddress_39 ?_
        refine ev_bipush (pc := 42) (v := 46) (by decide) dX9_readAddress_42 ?_
        refine ev_ic_ne (pc := 44) (tgt := 60) (by decide) dX9_readAddress_44 (fun c113 => ?_) (fun c113 => ?_)
        · replace h112 := qi_f h112 c113
          exact ev_weak (qL_s (qL_n (qL_n (qL_n (qL_n qL_nil))))) (e_X9_readAddress_60 h112)
        · replace h112 := qi_t h112 c113
          exact ev_weak (qL_s (qL_n (qL_n (qL_n (qL_n qL_nil))))) (e_X9_readAddress_47 ih h112)
def f_X9_readAddress (F : Nat) (S : gk_S) (a : Nat) : Option (Unit × gk_S) := f_X9_readAddress_0 F F a S
theorem e_X9_readAddress {X : gk_X} {F : Nat} {S : gk_S} {a : Nat} {r : (Unit × gk_S)} (h0 : f_X9_readAddress F S a = some r) : EvM X m_X9_readAddress 4 0 0 [.ref a] S (qRU r) := by
  unfold f_X9_readAddress at h0
  refine ev_method (by decide +kernel) rfl rfl (Nat.le_of_ble_eq_true rfl) ?_
  show EvW X m_X9_readAddress 4 0 0 0 [some (.ref a), none, none, none, none] [] S _
  exact ev_weak (qL_s (qL_n (qL_n (qL_n (qL_n qL_nil))))) (e_X9_readAddress_0 F _ _ _ h0)
theorem dX9_readRun_0 : decode cX9_readRun 0 = .ok (.iconst 0, 1) := by decide +kernel
theorem dX9_readRun_1 : decode cX9_readRun 1 = .ok (.istore_n 1, 1) := by decide +kernel
theorem dX9_readRun_2 : decode cX9_readRun 2 = .ok (.aload_n 0, 1) := by decide +kernel
theorem dX9_readRun_3 : decode cX9_readRun 3 = .ok (.getfield 28, 3) := by decide +kernel
theorem dX9_readRun_6 : decode cX9_readRun 6 = .ok (.aload_n 0, 1) := by decide +kernel
theorem dX9_readRun_7 : decode cX9_readRun 7 = .ok (.getfield 9, 3) := by decide +kernel
theorem dX9_readRun_10 : decode cX9_readRun 10 = .ok (.getfield 174, 3) := by decide +kernel
theorem dX9_readRun_13 : decode cX9_readRun 13 = .ok (.if_icmp .ge 58, 3) := by decide +kernel
theorem dX9_readRun_16 : decode cX9_readRun 16 = .ok (.aload_n 0, 1) := by decide +kernel
theorem dX9_readRun_17 : decode cX9_readRun 17 = .ok (.getfield 9, 3) := by decide +kernel
theorem dX9_readRun_20 : decode cX9_readRun 20 = .ok (.aload_n 0, 1) := by decide +kernel
theorem dX9_readRun_21 : decode cX9_readRun 21 = .ok (.getfield 28, 3) := by decide +kernel
theorem dX9_readRun_24 : decode cX9_readRun 24 = .ok (.invokevirtual 166, 3) := by decide +kernel
theorem dX9_readRun_27 : decode cX9_readRun 27 = .ok (.invokestatic 175, 3) := by decide +kernel
theorem dX9_readRun_30 : decode cX9_readRun 30 = .ok (.ifCond .eq 41, 3) := by decide +kernel
theorem dX9_readRun_33 : decode cX9_readRun 33 = .ok (.iload_n 1, 1) := by decide +kernel
theorem dX9_readRun_34 : decode cX9_readRun 34 = .ok (.aload_n 0, 1) := by decide +kernel
theorem dX9_readRun_35 : decode cX9_readRun 35 = .ok (.getfield 9, 3) := by decide +kernel
theorem dX9_readRun_38 : decode cX9_readRun 38 = .ok (.aload_n 0, 1) := by decide +kernel
theorem dX9_readRun_39 : decode cX9_readRun 39 = .ok (.getfield 28, 3) := by decide +kernel
theorem dX9_readRun_42 : decode cX9_readRun 42 = .ok (.invokevirtual 166, 3) := by decide +kernel
theorem dX9_readRun_45 : decode cX9_readRun 45 = .ok (.invokestatic 185, 3) := by decide +kernel
theorem dX9_readRun_48 : decode cX9_readRun 48 = .ok (.ifCond .eq 7, 3) := by decide +kernel
theorem dX9_readRun_51 : decode cX9_readRun 51 = .ok (.iconst 0, 1) := by decide +kernel
theorem dX9_readRun_52 : decode cX9_readRun 52 = .ok (.goto 4, 3) := by decide +kernel
theorem dX9_readRun_55 : decode cX9_readRun 55 = .ok (.iconst 1, 1) := by decide +kernel
theorem dX9_readRun_56 : decode cX9_readRun 56 = .ok (.iadd, 1) := by decide +kernel
theorem dX9_readRun_57 : decode cX9_readRun 57 = .ok (.istore_n 1, 1) := by decide +kernel
theorem dX9_readRun_58 : decode cX9_readRun 58 = .ok (.aload_n 0, 1) := by decide +kernel
theorem dX9_readRun_59 : decode cX9_readRun 59 = .ok (.dup, 1) := by decide +kernel
theorem dX9_readRun_60 : decode cX9_readRun 60 = .ok (.getfield 28, 3) := by decide +kernel
theorem dX9_readRun_63 : decode cX9_readRun 63 = .ok (.iconst 1, 1) := by decide +kernel
theorem dX9_readRun_64 : decode cX9_readRun 64 = .ok (.iadd, 1) := by decide +kernel
theorem dX9_readRun_65 : decode cX9_readRun 65 = .ok (.putfield 28, 3) := by decide +kernel
theorem dX9_readRun_68 : decode cX9_readRun 68 = .ok (.goto (-66), 3) := by decide +kernel
theorem dX9_readRun_71 : decode cX9_readRun 71 = .ok (.aload_n 0, 1) := by decide +kernel
theorem dX9_readRun_72 : decode cX9_readRun 72 = .ok (.getfield 28, 3) := by decide +kernel
theorem dX9_readRun_75 : decode cX9_readRun 75 = .ok (.aload_n 0, 1) := by decide +kernel
theorem dX9_readRun_76 : decode cX9_readRun 76 = .ok (.getfield 25, 3) := by decide +kernel
theorem dX9_readRun_79 : decode cX9_readRun 79 = .ok (.isub, 1) := by decide +kernel
theorem dX9_readRun_80 : decode cX9_readRun 80 = .ok (.istore_n 2, 1) := by decide +kernel
theorem dX9_readRun_81 : decode cX9_readRun 81 = .ok (.iload_n 1, 1) := by decide +kernel
theorem dX9_readRun_82 : decode cX9_readRun 82 = .ok (.ifCond .ne 26, 3) := by decide +kernel
theorem dX9_readRun_85 : decode cX9_readRun 85 = .ok (.aload_n 0, 1) := by decide +kernel
theorem dX9_readRun_86 : decode cX9_readRun 86 = .ok (.getfield 9, 3) := by decide +kernel
theorem dX9_readRun_89 : decode cX9_readRun 89 = .ok (.aload_n 0, 1) := by decide +kernel
theorem dX9_readRun_90 : decode cX9_readRun 90 = .ok (.getfield 28, 3) := by decide +kernel
theorem dX9_readRun_93 : decode cX9_readRun 93 = .ok (.invokevirtual 166, 3) := by decide +kernel
theorem dX9_readRun_96 : decode cX9_readRun 96 = .ok (.bipush 46, 2) := by decide +kernel
theorem dX9_readRun_98 : decode cX9_readRun 98 = .ok (.if_icmp .ne 10, 3) := by decide +kernel
theorem dX9_readRun_101 : decode cX9_readRun 101 = .ok (.aload_n 0, 1) := by decide +kernel
theorem dX9_readRun_102 : decode cX9_readRun 102 = .ok (.invokevirtual 188, 3) := by decide +kernel
theorem dX9_readRun_105 : decode cX9_readRun 105 = .ok (.goto 78, 3) := by decide +kernel
theorem dX9_readRun_108 : decode cX9_readRun 108 = .ok (.iload_n 1, 1) := by decide +kernel
theorem dX9_readRun_109 : decode cX9_readRun 109 = .ok (.ifCond .ne 50, 3) := by decide +kernel
theorem dX9_readRun_112 : decode cX9_readRun 112 = .ok (.aload_n 0, 1) := by decide +kernel
theorem dX9_readRun_113 : decode cX9_readRun 113 = .ok (.iload_n 2, 1) := by decide +kernel
theorem dX9_readRun_114 : decode cX9_readRun 114 = .ok (.iconst 5, 1) := by decide +kernel
theorem dX9_readRun_115 : decode cX9_readRun 115 = .ok (.if_icmp .gt 9, 3) := by decide +kernel
theorem dX9_readRun_118 : decode cX9_readRun 118 = .ok (.sipush 258, 3) := by decide +kernel
theorem dX9_readRun_121 : decode cX9_readRun 121 = .ok (.goto 6, 3) := by decide +kernel
theorem dX9_readRun_124 : decode cX9_readRun 124 = .ok (.sipush 260, 3) := by decide +kernel
theorem dX9_readRun_127 : decode cX9_readRun 127 = .ok (.putfield 22, 3) := by decide +kernel
theorem dX9_readRun_130 : decode cX9_readRun 130 = .ok (.aload_n 0, 1) := by decide +kernel
theorem dX9_readRun_131 : decode cX9_readRun 131 = .ok (.iload_n 2, 1) := by decide +kernel
theorem dX9_readRun_132 : decode cX9_readRun 132 = .ok (.iconst 5, 1) := by decide +kernel
theorem dX9_readRun_133 : decode cX9_readRun 133 = .ok (.if_icmp .gt 19, 3) := by decide +kernel
theorem dX9_readRun_136 : decode cX9_readRun 136 = .ok (.aload_n 0, 1) := by decide +kernel
theorem dX9_readRun_137 : decode cX9_readRun 137 = .ok (.aload_n 0, 1) := by decide +kernel
theorem dX9_readRun_138 : decode cX9_readRun 138 = .ok (.getfield 25, 3) := by decide +kernel
theorem dX9_readRun_141 : decode cX9_readRun 141 = .ok (.aload_n 0, 1) := by decide +kernel
theorem dX9_readRun_142 : decode cX9_readRun 142 = .ok (.getfield 28, 3) := by decide +kernel
theorem dX9_readRun_145 : decode cX9_readRun 145 = .ok (.invokevirtual 191, 3) := by decide +kernel
theorem dX9_readRun_148 : decode cX9_readRun 148 = .ok (.i2l, 1) := by decide +kernel
theorem dX9_readRun_149 : decode cX9_readRun 149 = .ok (.goto 4, 3) := by decide +kernel
theorem dX9_readRun_152 : decode cX9_readRun 152 = .ok (.lconst 0, 1) := by decide +kernel
theorem dX9_readRun_153 : decode cX9_readRun 153 = .ok (.putfield 31, 3) := by decide +kernel
theorem dX9_readRun_156 : decode cX9_readRun 156 = .ok (.goto 27, 3) := by decide +kernel
theorem dX9_readRun_159 : decode cX9_readRun 159 = .ok (.aload_n 0, 1) := by decide +kernel
theorem dX9_readRun_160 : decode cX9_readRun 160 = .ok (.iload_n 1, 1) := by decide +kernel
theorem dX9_readRun_161 : decode cX9_readRun 161 = .ok (.iload_n 2, 1) := by decide +kernel
theorem dX9_readRun_162 : decode cX9_readRun 162 = .ok (.if_icmp .ne 15, 3) := by decide +kernel
theorem dX9_readRun_165 : decode cX9_readRun 165 = .ok (.iload_n 2, 1) := by decide +kernel
theorem dX9_readRun_166 : decode cX9_readRun 166 = .ok (.bipush 11, 2) := by decide +kernel
theorem dX9_readRun_168 : decode cX9_readRun 168 = .ok (.if_icmp .gt 9, 3) := by decide +kernel
theorem dX9_readRun_171 : decode cX9_readRun 171 = .ok (.sipush 257, 3) := by decide +kernel
theorem dX9_readRun_174 : decode cX9_readRun 174 = .ok (.goto 6, 3) := by decide +kernel
theorem dX9_readRun_177 : decode cX9_readRun 177 = .ok (.sipush 260, 3) := by decide +kernel
theorem dX9_readRun_180 : decode cX9_readRun 180 = .ok (.putfield 22, 3) := by decide +kernel
theorem dX9_readRun_183 : decode cX9_readRun 183 = .ok (.return_, 1) := by decide +kernel
def f_X9_readRun_127 (F : Nat) (l0 : Nat) (l2 : Int32) (s0 : Int32) (s1 : Nat) (S : gk_S) : Option (Unit × gk_S) := qk (isb S s1 7) <| qv (sI S 703 s1 s0) fun S51 => if (5 : Int32) < l2 then (qk (isb S51 l0 7) <| qv (sJ S51 706 l0 0) fun S58 => some ((), S58)) else qk (isb S51 l0 7) <| qv (gI S51 704 l0) fun x63 => qv (gI S51 705 l0) fun x66 => qc (f_X9_numberBetween F S51 l0 x63 x66) fun x69 S70 => qk (isb S70 l0 7) <| qv (sJ S70 706 l0 ((x69 : Int32).toInt64)) fun S75 => some ((), S75)
theorem e_X9_readRun_127 {X : gk_X} {F : Nat} {l0 : Nat} {l2 : Int32} {s0 : Int32} {s1 : Nat} {S : gk_S} {r : (Unit × gk_S)} (h0 : f_X9_readRun_127 F l0 l2 s0 s1 S = some r) : EvW X m_X9_readRun 5 0 0 127 [some (.ref l0), none, some (.int l2)] [.int s0, .ref s1] S (qRU r) := by
  unfold f_X9_readRun_127 at h0
  obtain ⟨g49, h50⟩ := qk_el h0; clear h0
  obtain ⟨S51, e52, h53⟩ := qv_el h50; clear h50
  refine yv_putI (pc := 127) fn_703 ⟨rfl, rfl⟩ (isb_el g49) e52 gw_123 dX9_readRun_127 ?_
  refine ev_aload_n (pc := 130) (i := 0) rfl rfl rfl dX9_readRun_130 ?_
  refine ev_iload_n (pc := 131) (i := 2) rfl rfl dX9_readRun_131 ?_
  refine ev_iconst (pc := 132) (v := 5) (by decide) dX9_readRun_132 ?_
  refine ev_ic_gt (pc := 133) (tgt := 152) (by decide) dX9_readRun_133 (fun c54 => ?_) (fun c54 => ?_)
  · replace h53 := qi_t h53 c54
    refine ev_lconst (pc := 152) (v := 0) (by decide) dX9_readRun_152 ?_
    obtain ⟨g56, h57⟩ := qk_el h53; clear h53
    obtain ⟨S58, e59, h60⟩ := qv_el h57; clear h57
    refine yv_putJ (pc := 153) fn_706 (isb_el g56) e59 gw_126 dX9_readRun_153 ?_
    refine ev_goto (pc := 156) (tgt := 183) (by decide) dX9_readRun_156 ?_
    exact ev_return (pc := 183) rfl (by cases h60; rfl) dX9_readRun_183
  · replace h53 := qi_f h53 c54
    refine ev_aload_n (pc := 136) (i := 0) rfl rfl rfl dX9_readRun_136 ?_
    refine ev_aload_n (pc := 137) (i := 0) rfl rfl rfl dX9_readRun_137 ?_
    obtain ⟨g61, h62⟩ := qk_el h53; clear h53
    obtain ⟨x63, e64, h65⟩ := qv_el h62; clear h62
    refine xv_getIv (pc := 138) fn_704 (isb_el g61) e64 gw_124 dX9_readRun_138 ?_
    refine ev_aload_n (pc := 141) (i := 0) rfl rfl rfl dX9_readRun_141 ?_
    obtain ⟨x66, e67, h68⟩ := qv_el h65; clear h65
    refine xv_getIv (pc := 142) fn_705 (isb_el g61) e67 gw_125 dX9_readRun_142 ?_
    obtain ⟨x69, S70, e71, h72⟩ := qc_el h68; clear h68
    refine xv_callV (pc := 145) (st := [.ref l0]) (as := [.int x63, .int x66]) (v := (some (.int x69))) (S' := S70) ok_X9_numberBetween (e_X9_numberBetween e71) (isb_el g61) (by decide) rfl (Nat.le_of_ble_eq_true rfl) rfl gw_490 dX9_readRun_145 ?_
    refine ev_i2l (pc := 148)  dX9_readRun_148 ?_
    refine ev_goto (pc := 149) (tgt := 153) (by decide) dX9_readRun_149 ?_
    obtain ⟨g73, h74⟩ := qk_el h72; clear h72
    obtain ⟨S75, e76, h77⟩ := qv_el h74; clear h74
    refine yv_putJ (pc := 153) fn_706 (isb_el g73) e76 gw_126 dX9_readRun_153 ?_
    refine ev_goto (pc := 156) (tgt := 183) (by decide) dX9_readRun_156 ?_
    exact ev_return (pc := 183) rfl (by cases h77; rfl) dX9_readRun_183
def f_X9_readRun_108 (F : Nat) (l0 : Nat) (l1 : Int32) (l2 : Int32) (S : gk_S) : Option (Unit × gk_S) := if l1 = (0 : Int32) then (if (5 : Int32) < l2 then (f_X9_readRun_127 F l0 l2 260 l0 S) else f_X9_readRun_127 F l0 l2 258 l0 S) else if l1 = l2 then (if (11 : Int32) < l2 then (qk (isb S l0 7) <| qv (sI S 703 l0 260) fun S39 => some ((), S39)) else qk (isb S l0 7) <| qv (sI S 703 l0 257) fun S44 => some ((), S44)) else qk (isb S l0 7) <| qv (sI S 703 l0 260) fun S32 => some ((), S32)
theorem e_X9_readRun_108 {X : gk_X} {F : Nat} {l0 : Nat} {l1 : Int32} {l2 : Int32} {S : gk_S} {r : (Unit × gk_S)} (h0 : f_X9_readRun_108 F l0 l1 l2 S = some r) : EvW X m_X9_readRun 5 0 0 108 [some (.ref l0), some (.int l1), some (.int l2)] [] S (qRU r) := by
  unfold f_X9_readRun_108 at h0
  refine ev_iload_n (pc := 108) (i := 1) rfl rfl dX9_readRun_108 ?_
  refine ev_if_ne (pc := 109) (tgt := 159) (by decide) dX9_readRun_109 (fun c26 => ?_) (fun c26 => ?_)
  · replace h0 := qi_f h0 c26
    refine ev_aload_n (pc := 159) (i := 0) rfl rfl rfl dX9_readRun_159 ?_
    refine ev_iload_n (pc := 160) (i := 1) rfl rfl dX9_readRun_160 ?_
    refine ev_iload_n (pc := 161) (i := 2) rfl rfl dX9_readRun_161 ?_
    refine ev_ic_ne (pc := 162) (tgt := 177) (by decide) dX9_readRun_162 (fun c28 => ?_) (fun c28 => ?_)
    · replace h0 := qi_f h0 c28
      refine ev_sipush (pc := 177) (v := 260) (by decide) dX9_readRun_177 ?_
      obtain ⟨g30, h31⟩ := qk_el h0; clear h0
      obtain ⟨S32, e33, h34⟩ := qv_el h31; clear h31
      refine yv_putI (pc := 180) fn_703 ⟨rfl, rfl⟩ (isb_el g30) e33 gw_123 dX9_readRun_180 ?_
      exact ev_return (pc := 183) rfl (by cases h34; rfl) dX9_readRun_183
    · replace h0 := qi_t h0 c28
      refine ev_iload_n (pc := 165) (i := 2) rfl rfl dX9_readRun_165 ?_
      refine ev_bipush (pc := 166) (v := 11) (by decide) dX9_readRun_166 ?_
      refine ev_ic_gt (pc := 168) (tgt := 177) (by decide) dX9_readRun_168 (fun c35 => ?_) (fun c35 => ?_)
      · replace h0 := qi_t h0 c35
        refine ev_sipush (pc := 177) (v := 260) (by decide) dX9_readRun_177 ?_
        obtain ⟨g37, h38⟩ := qk_el h0; clear h0
        obtain ⟨S39, e40, h41⟩ := qv_el h38; clear h38
        refine yv_putI (pc := 180) fn_703 ⟨rfl, rfl⟩ (isb_el g37) e40 gw_123 dX9_readRun_180 ?_
        exact ev_return (pc := 183) rfl (by cases h41; rfl) dX9_readRun_183
      · replace h0 := qi_f h0 c35
        refine ev_sipush (pc := 171) (v := 257) (by decide) dX9_readRun_171 ?_
        refine ev_goto (pc := 174) (tgt := 180) (by decide) dX9_readRun_174 ?_
        obtain ⟨g42, h43⟩ := qk_el h0; clear h0
        obtain ⟨S44, e45, h46⟩ := qv_el h43; clear h43
        refine yv_putI (pc := 180) fn_703 ⟨rfl, rfl⟩ (isb_el g42) e45 gw_123 dX9_readRun_180 ?_
        exact ev_return (pc := 183) rfl (by cases h46; rfl) dX9_readRun_183
  · replace h0 := qi_t h0 c26
    refine ev_aload_n (pc := 112) (i := 0) rfl rfl rfl dX9_readRun_112 ?_
    refine ev_iload_n (pc := 113) (i := 2) rfl rfl dX9_readRun_113 ?_
    refine ev_iconst (pc := 114) (v := 5) (by decide) dX9_readRun_114 ?_
    refine ev_ic_gt (pc := 115) (tgt := 124) (by decide) dX9_readRun_115 (fun c47 => ?_) (fun c47 => ?_)
    · replace h0 := qi_t h0 c47
      refine ev_sipush (pc := 124) (v := 260) (by decide) dX9_readRun_124 ?_
      exact ev_weak (qL_s (qL_n (qL_s qL_nil))) (e_X9_readRun_127 h0)
    · replace h0 := qi_f h0 c47
      refine ev_sipush (pc := 118) (v := 258) (by decide) dX9_readRun_118 ?_
      refine ev_goto (pc := 121) (tgt := 127) (by decide) dX9_readRun_121 ?_
      exact ev_weak (qL_s (qL_n (qL_s qL_nil))) (e_X9_readRun_127 h0)
def f_X9_readRun_71 (F : Nat) (l0 : Nat) (l1 : Int32) (S : gk_S) : Option (Unit × gk_S) := qk (isb S l0 7) <| qv (gI S 705 l0) fun x18 => qv (gI S 704 l0) fun x21 => if l1 = (0 : Int32) then (qP (gP S 700 l0) fun b78 => qv (gI S 705 l0) fun x81 => qk (isb S b78 1) <| qc (f_X2_at F S b78 x81) fun x86 S87 => if x86 = (46 : Int32) then (qk (isb S87 l0 7) <| qc (f_X9_readAddress F S87 l0) fun x94 S95 => some ((), S95)) else f_X9_readRun_108 F l0 l1 (x18 - x21) S87) else f_X9_readRun_108 F l0 l1 (x18 - x21) S
theorem e_X9_readRun_71 {X : gk_X} {F : Nat} {l0 : Nat} {l1 : Int32} {S : gk_S} {r : (Unit × gk_S)} (h0 : f_X9_readRun_71 F l0 l1 S = some r) : EvW X m_X9_readRun 5 0 0 71 [some (.ref l0), some (.int l1), none] [] S (qRU r) := by
  unfold f_X9_readRun_71 at h0
  refine ev_aload_n (pc := 71) (i := 0) rfl rfl rfl dX9_readRun_71 ?_
  obtain ⟨g16, h17⟩ := qk_el h0; clear h0
  obtain ⟨x18, e19, h20⟩ := qv_el h17; clear h17
  refine xv_getIv (pc := 72) fn_705 (isb_el g16) e19 gw_125 dX9_readRun_72 ?_
  refine ev_aload_n (pc := 75) (i := 0) rfl rfl rfl dX9_readRun_75 ?_
  obtain ⟨x21, e22, h23⟩ := qv_el h20; clear h20
  refine xv_getIv (pc := 76) fn_704 (isb_el g16) e22 gw_124 dX9_readRun_76 ?_
  refine ev_isub (pc := 79)  dX9_readRun_79 ?_
  refine ev_istore_n (pc := 80) (L' := [some (.ref l0), some (.int l1), some (.int (x18 - x21))]) (i := 2) rfl (by decide) rfl rfl dX9_readRun_80 ?_
  refine ev_iload_n (pc := 81) (i := 1) rfl rfl dX9_readRun_81 ?_
  refine ev_if_ne (pc := 82) (tgt := 108) (by decide) dX9_readRun_82 (fun c24 => ?_) (fun c24 => ?_)
  · replace h23 := qi_f h23 c24
    exact ev_weak (qL_s (qL_s (qL_s qL_nil))) (e_X9_readRun_108 h23)
  · replace h23 := qi_t h23 c24
    refine ev_aload_n (pc := 85) (i := 0) rfl rfl rfl dX9_readRun_85 ?_
    obtain ⟨b78, e79, h80⟩ := qP_el h23; clear h23
    refine xv_getP (pc := 86) fn_700 (isb_el g16) e79 gw_118 dX9_readRun_86 ?_
    refine ev_aload_n (pc := 89) (i := 0) rfl rfl rfl dX9_readRun_89 ?_
    obtain ⟨x81, e82, h83⟩ := qv_el h80; clear h80
    refine xv_getIv (pc := 90) fn_705 (isb_el g16) e82 gw_125 dX9_readRun_90 ?_
    obtain ⟨g84, h85⟩ := qk_el h83; clear h83
    obtain ⟨x86, S87, e88, h89⟩ := qc_el h85; clear h85
    refine xv_callV (pc := 93) (st := []) (as := [.int x81]) (v := (some (.int x86))) (S' := S87) ok_X2_at (e_X2_at e88) (isb_el g84) (by decide) rfl (Nat.le_of_ble_eq_true rfl) rfl gw_468 dX9_readRun_93 ?_
    refine ev_bipush (pc := 96) (v := 46) (by decide) dX9_readRun_96 ?_
    refine ev_ic_ne (pc := 98) (tgt := 108) (by decide) dX9_readRun_98 (fun c90 => ?_) (fun c90 => ?_)
    · replace h89 := qi_f h89 c90
      exact ev_weak (qL_s (qL_s (qL_s qL_nil))) (e_X9_readRun_108 h89)
    · replace h89 := qi_t h89 c90
      refine ev_aload_n (pc := 101) (i := 0) rfl rfl rfl dX9_readRun_101 ?_
      obtain ⟨g92, h93⟩ := qk_el h89; clear h89
      obtain ⟨x94, S95, e96, h97⟩ := qc_el h93; clear h93
      refine xv_callV (pc := 102) (st := []) (as := []) (v := none) (S' := S95) ok_X9_readAddress (e_X9_readAddress e96) (isb_el g92) (by decide) rfl (Nat.le_of_ble_eq_true rfl) rfl gw_482 dX9_readRun_102 ?_
      refine ev_goto (pc := 105) (tgt := 183) (by decide) dX9_readRun_105 ?_
      exact ev_return (pc := 183) rfl (by cases h97; rfl) dX9_readRun_183
def f_X9_readRun_56 (F : Nat) (k2 : Nat → Int32 → gk_S → Option (Unit × gk_S)) (l0 : Nat) (s0 : Int32) (s1 : Int32) (S : gk_S) : Option (Unit × gk_S) := qk (isb S l0 7) <| qv (gI S 705 l0) fun x138 => qv (sI S 705 l0 (x138 + 1)) fun S141 => k2 l0 (s1 + s0) S141
theorem e_X9_readRun_56 {X : gk_X} {F : Nat} {k2 : Nat → Int32 → gk_S → Option (Unit × gk_S)} (hk2 : ∀ (l0 : Nat) (l1 : Int32) (S : gk_S) (r : (Unit × gk_S)), k2 l0 l1 S = some r → EvW X m_X9_readRun 5 0 0 2 [some (.ref l0), some (.int l1), none] [] S (qRU r)) {l0 : Nat} {s0 : Int32} {s1 : Int32} {S : gk_S} {r : (Unit × gk_S)} (h0 : f_X9_readRun_56 F k2 l0 s0 s1 S = some r) : EvW X m_X9_readRun 5 0 0 56 [some (.ref l0), none, none] [.int s0, .int s1] S (qRU r) := by
  unfold f_X9_readRun_56 at h0
  refine ev_iadd (pc := 56)  dX9_readRun_56 ?_
  refine ev_istore_n (pc := 57) (L' := [some (.ref l0), some (.int (s1 + s0)), none]) (i := 1) rfl (by decide) rfl rfl dX9_readRun_57 ?_
  refine ev_aload_n (pc := 58) (i := 0) rfl rfl rfl dX9_readRun_58 ?_
  refine ev_dup (pc := 59) (.inr rfl) dX9_readRun_59 ?_
  obtain ⟨g136, h137⟩ := qk_el h0; clear h0
  obtain ⟨x138, e139, h140⟩ := qv_el h137; clear h137
  refine xv_getIv (pc := 60) fn_705 (isb_el g136) e139 gw_125 dX9_readRun_60 ?_
  refine ev_iconst (pc := 63) (v := 1) (by decide) dX9_readRun_63 ?_
  refine ev_iadd (pc := 64)  dX9_readRun_64 ?_
  obtain ⟨S141, e142, h143⟩ := qv_el h140; clear h140
  refine yv_putI (pc := 65) fn_705 ⟨rfl, rfl⟩ (isb_el g136) e142 gw_125 dX9_readRun_65 ?_
  refine ev_goto (pc := 68) (tgt := 2) (by decide) dX9_readRun_68 ?_
  exact ev_weak (qL_s (qL_s (qL_n qL_nil))) (hk2 _ _ _ _ h143)
def f_X9_readRun_2 (F : Nat) : Nat → Nat → Int32 → gk_S → Option (Unit × gk_S)
  | 0, _, _, _ => none
  | n + 1, l0, l1, S => qk (isb S l0 7) <| qv (gI S 705 l0) fun x3 => qP (gP S 700 l0) fun b6 => qk (isb S b6 1) <| qv (gI S 101 b6) fun x11 => if x11 ≤ x3 then (f_X9_readRun_71 F l0 l1 S) else qP (gP S 700 l0) fun b98 => qv (gI S 705 l0) fun x101 => qk (isb S b98 1) <| qc (f_X2_at F S b98 x101) fun x106 S107 => qc (f_X9_isLetterOrDigit F S107 x106) fun x110 S111 => if x110 = (0 : Int32) then (f_X9_readRun_71 F l0 l1 S111) else qk (isb S111 l0 7) <| qP (gP S111 700 l0) fun b118 => qv (gI S111 705 l0) fun x121 => qk (isb S111 b118 1) <| qc (f_X2_at F S111 b118 x121) fun x126 S127 => qc (f_X9_isDigit F S127 x126) fun x130 S131 => if x130 = (0 : Int32) then (f_X9_readRun_56 F (f_X9_readRun_2 F n) l0 1 l1 S131) else f_X9_readRun_56 F (f_X9_readRun_2 F n) l0 0 l1 S131
theorem e_X9_readRun_2 {X : gk_X} {F : Nat} : ∀ (n : Nat) (l0 : Nat) (l1 : Int32) (S : gk_S) (r : (Unit × gk_S)), f_X9_readRun_2 F n l0 l1 S = some r → EvW X m_X9_readRun 5 0 0 2 [some (.ref l0), some (.int l1), none] [] S (qRU r) := by
  intro n
  induction n with
  | zero => intro l0 l1 S r h0; rw [f_X9_readRun_2] at h0; cases h0
  | succ n ih =>
    intro l0 l1 S r h0; rw [f_X9_readRun_2] at h0
    refine ev_aload_n (pc := 2) (i := 0) rfl rfl rfl dX9_readRun_2 ?_
    obtain ⟨g1, h2⟩ := qk_el h0; clear h0
    obtain ⟨x3, e4, h5⟩ := qv_el h2; clear h2
    refine xv_getIv (pc := 3) fn_705 (isb_el g1) e4 gw_125 dX9_readRun_3 ?_
    refine ev_aload_n (pc := 6) (i := 0) rfl rfl rfl dX9_readRun_6 ?_
    obtain ⟨b6, e7, h8⟩ := qP_el h5; clear h5
    refine xv_getP (pc := 7) fn_700 (isb_el g1) e7 gw_118 dX9_readRun_7 ?_
    obtain ⟨g9, h10⟩ := qk_el h8; clear h8
    obtain ⟨x11, e12, h13⟩ := qv_el h10; clear h10
    refine xv_getIv (pc := 10) fn_101 (isb_el g9) e12 gw_43 dX9_readRun_10 ?_
    refine ev_ic_ge (pc := 13) (tgt := 71) (by decide) dX9_readRun_13 (fun c14 => ?_) (fun c14 => ?_)
    · replace h13 := qi_t h13 c14
      exact ev_weak (qL_s (qL_s (qL_n qL_nil))) (e_X9_readRun_71 h13)
    · replace h13 := qi_f h13 c14
      refine ev_aload_n (pc := 16) (i := 0) rfl rfl rfl dX9_readRun_16 ?_
      obtain ⟨b98, e99, h100⟩ := qP_el h13; clear h13
      refine xv_getP (pc := 17) fn_700 (isb_el g1) e99 gw_118 dX9_readRun_17 ?_
      refine ev_aload_n (pc := 20) (i := 0) rfl rfl rfl dX9_readRun_20 ?_
      obtain ⟨x101, e102, h103⟩ := qv_el h100; clear h100
      refine xv_getIv (pc := 21) fn_705 (isb_el g1) e102 gw_125 dX9_readRun_21 ?_
      obtain ⟨g104, h105⟩ := qk_el h103; clear h103
      obtain ⟨x106, S107, e108, h109⟩ := qc_el h105; clear h105
      refine xv_callV (pc := 24) (st := []) (as := [.int x101]) (v := (some (.int x106))) (S' := S107) ok_X2_at (e_X2_at e108) (isb_el g104) (by decide) rfl (Nat.le_of_ble_eq_true rfl) rfl gw_468 dX9_readRun_24 ?_
      obtain ⟨x110, S111, e112, h113⟩ := qc_el h109; clear h109
      refine xv_callS (pc := 27) (st := []) (as := [.int x106]) (v := (some (.int x110))) (S' := S111) ok_X9_isLetterOrDigit (e_X9_isLetterOrDigit e112) (by decide) rfl (Nat.le_of_ble_eq_true rfl) rfl gw_472 dX9_readRun_27 ?_
      refine ev_if_eq (pc := 30) (tgt := 71) (by decide) dX9_readRun_30 (fun c114 => ?_) (fun c114 => ?_)
      · replace h113 := qi_t h113 c114
        exact ev_weak (qL_s (qL_s (qL_n qL_nil))) (e_X9_readRun_71 h113)
      · replace h113 := qi_f h113 c114
        refine ev_iload_n (pc := 33) (i := 1) rfl rfl dX9_readRun_33 ?_
        refine ev_aload_n (pc := 34) (i := 0) rfl rfl rfl dX9_readRun_34 ?_
        obtain ⟨g116, h117⟩ := qk_el h113; clear h113
        obtain ⟨b118, e119, h120⟩ := qP_el h117; clear h117
        refine xv_getP (pc := 35) fn_700 (isb_el g116) e119 gw_118 dX9_readRun_35 ?_
        refine ev_aload_n (pc := 38) (i := 0) rfl rfl rfl dX9_readRun_38 ?_
        obtain ⟨x121, e122, h123⟩ := qv_el h120; clear h120
        refine xv_getIv (pc := 39) fn_705 (isb_el g116) e122 gw_125 dX9_readRun_39 ?_
        obtain ⟨g124, h125⟩ := qk_el h123; clear h123
        obtain ⟨x126, S127, e128, h129⟩ := qc_el h125; clear h125
        refine xv_callV (pc := 42) (st := [.int l1]) (as := [.int x121]) (v := (some (.int x126))) (S' := S127) ok_X2_at (e_X2_at e128) (isb_el g124) (by decide) rfl (Nat.le_of_ble_eq_true rfl) rfl gw_468 dX9_readRun_42 ?_
        obtain ⟨x130, S131, e132, h133⟩ := qc_el h129; clear h129
        refine xv_callS (pc := 45) (st := [.int l1]) (as := [.int x126]) (v := (some (.int x130))) (S' := S131) ok_X9_isDigit (e_X9_isDigit e132) (by decide) rfl (Nat.le_of_ble_eq_true rfl) rfl gw_475 dX9_readRun_45 ?_
        refine ev_if_eq (pc := 48) (tgt := 55) (by decide) dX9_readRun_48 (fun c134 => ?_) (fun c134 => ?_)
        · replace h133 := qi_t h133 c134
          refine ev_iconst (pc := 55) (v := 1) (by decide) dX9_readRun_55 ?_
          exact ev_weak (qL_s (qL_n (qL_n qL_nil))) (e_X9_readRun_56 ih h133)
        · replace h133 := qi_f h133 c134
          refine ev_iconst (pc := 51) (v := 0) (by decide) dX9_readRun_51 ?_
          refine ev_goto (pc := 52) (tgt := 56) (by decide) dX9_readRun_52 ?_
          exact ev_weak (qL_s (qL_n (qL_n qL_nil))) (e_X9_readRun_56 ih h133)
def f_X9_readRun (F : Nat) (S : gk_S) (a : Nat) : Option (Unit × gk_S) := f_X9_readRun_2 F F a 0 S
theorem e_X9_readRun {X : gk_X} {F : Nat} {S : gk_S} {a : Nat} {r : (Unit × gk_S)} (h0 : f_X9_readRun F S a = some r) : EvM X m_X9_readRun 5 0 0 [.ref a] S (qRU r) := by
  unfold f_X9_readRun at h0
  refine ev_method (by decide +kernel) rfl rfl (Nat.le_of_ble_eq_true rfl) ?_
  show EvW X m_X9_readRun 5 0 0 0 [some (.ref a), none, none] [] S _
  refine ev_iconst (pc := 0) (v := 0) (by decide) dX9_readRun_0 ?_
  refine ev_istore_n (pc := 1) (L' := [some (.ref a), some (.int 0), none]) (i := 1) rfl (by decide) rfl rfl dX9_readRun_1 ?_
  exact ev_weak (qL_s (qL_s (qL_n qL_nil))) (e_X9_readRun_2 F _ _ _ _ h0)
theorem dX9_isSign_0 : decode cX9_isSign 0 = .ok (.iload_n 0, 1) := by decide +kernel
theorem dX9_isSign_1 : decode cX9_isSign 1 = .ok (.bipush 59, 2) := by decide +kernel
theorem dX9_isSign_3 : decode cX9_isSign 3 = .ok (.if_icmp .eq 21, 3) := by decide +kernel
theorem dX9_isSign_6 : decode cX9_isSign 6 = .ok (.iload_n 0, 1) := by decide +kernel
theorem dX9_isSign_7 : decode cX9_isSign 7 = .ok (.bipush 44, 2) := by decide +kernel
theorem dX9_isSign_9 : decode cX9_isSign 9 = .ok (.if_icmp .eq 15, 3) := by decide +kernel
theorem dX9_isSign_12 : decode cX9_isSign 12 = .ok (.iload_n 0, 1) := by decide +kernel
theorem dX9_isSign_13 : decode cX9_isSign 13 = .ok (.bipush 45, 2) := by decide +kernel
theorem dX9_isSign_15 : decode cX9_isSign 15 = .ok (.if_icmp .eq 9, 3) := by decide +kernel
theorem dX9_isSign_18 : decode cX9_isSign 18 = .ok (.iload_n 0, 1) := by decide +kernel
theorem dX9_isSign_19 : decode cX9_isSign 19 = .ok (.bipush 47, 2) := by decide +kernel
theorem dX9_isSign_21 : decode cX9_isSign 21 = .ok (.if_icmp .ne 7, 3) := by decide +kernel
theorem dX9_isSign_24 : decode cX9_isSign 24 = .ok (.iconst 1, 1) := by decide +kernel
theorem dX9_isSign_25 : decode cX9_isSign 25 = .ok (.goto 4, 3) := by decide +kernel
theorem dX9_isSign_28 : decode cX9_isSign 28 = .ok (.iconst 0, 1) := by decide +kernel
theorem dX9_isSign_29 : decode cX9_isSign 29 = .ok (.ireturn, 1) := by decide +kernel
def f_X9_isSign (F : Nat) (S : gk_S) (p0 : Int32) : Option (Int32 × gk_S) := if p0 = (59 : Int32) then (some (1, S)) else if p0 = (44 : Int32) then (some (1, S)) else if p0 = (45 : Int32) then (some (1, S)) else if p0 = (47 : Int32) then (some (1, S)) else some (0, S)
theorem e_X9_isSign {X : gk_X} {F : Nat} {S : gk_S} {p0 : Int32} {r : (Int32 × gk_S)} (h0 : f_X9_isSign F S p0 = some r) : EvM X m_X9_isSign 1 0 0 [.int p0] S (qRI r) := by
  unfold f_X9_isSign at h0
  refine ev_method (by decide +kernel) rfl rfl (Nat.le_of_ble_eq_true rfl) ?_
  show EvW X m_X9_isSign 1 0 0 0 [some (.int p0)] [] S _
  refine ev_iload_n (pc := 0) (i := 0) rfl rfl dX9_isSign_0 ?_
  refine ev_bipush (pc := 1) (v := 59) (by decide) dX9_isSign_1 ?_
  refine ev_ic_eq (pc := 3) (tgt := 24) (by decide) dX9_isSign_3 (fun c1 => ?_) (fun c1 => ?_)
  · replace h0 := qi_t h0 c1
    refine ev_iconst (pc := 24) (v := 1) (by decide) dX9_isSign_24 ?_
    refine ev_goto (pc := 25) (tgt := 29) (by decide) dX9_isSign_25 ?_
    exact ev_ireturn (pc := 29) rfl rfl (by cases h0; rfl) dX9_isSign_29
  · replace h0 := qi_f h0 c1
    refine ev_iload_n (pc := 6) (i := 0) rfl rfl dX9_isSign_6 ?_
    refine ev_bipush (pc := 7) (v := 44) (by decide) dX9_isSign_7 ?_
    refine ev_ic_eq (pc := 9) (tgt := 24) (by decide) dX9_isSign_9 (fun c3 => ?_) (fun c3 => ?_)
    · replace h0 := qi_t h0 c3
      refine ev_iconst (pc := 24) (v := 1) (by decide) dX9_isSign_24 ?_
      refine ev_goto (pc := 25) (tgt := 29) (by decide) dX9_isSign_25 ?_
      exact ev_ireturn (pc := 29) rfl rfl (by cases h0; rfl) dX9_isSign_29
    · replace h0 := qi_f h0 c3
      refine ev_iload_n (pc := 12) (i := 0) rfl rfl dX9_isSign_12 ?_
      refine ev_bipush (pc := 13) (v := 45) (by decide) dX9_isSign_13 ?_
      refine ev_ic_eq (pc := 15) (tgt := 24) (by decide) dX9_isSign_15 (fun c5 => ?_) (fun c5 => ?_)
      · replace h0 := qi_t h0 c5
        refine ev_iconst (pc := 24) (v := 1) (by decide) dX9_isSign_24 ?_
        refine ev_goto (pc := 25) (tgt := 29) (by decide) dX9_isSign_25 ?_
        exact ev_ireturn (pc := 29) rfl rfl (by cases h0; rfl) dX9_isSign_29
      · replace h0 := qi_f h0 c5
        refine ev_iload_n (pc := 18) (i := 0) rfl rfl dX9_isSign_18 ?_
        refine ev_bipush (pc := 19) (v := 47) (by decide) dX9_isSign_19 ?_
        refine ev_ic_ne (pc := 21) (tgt := 28) (by decide) dX9_isSign_21 (fun c7 => ?_) (fun c7 => ?_)
        · replace h0 := qi_f h0 c7
          refine ev_iconst (pc := 28) (v := 0) (by decide) dX9_isSign_28 ?_
          exact ev_ireturn (pc := 29) rfl rfl (by cases h0; rfl) dX9_isSign_29
        · replace h0 := qi_t h0 c7
          refine ev_iconst (pc := 24) (v := 1) (by decide) dX9_isSign_24 ?_
          refine ev_goto (pc := 25) (tgt := 29) (by decide) dX9_isSign_25 ?_
          exact ev_ireturn (pc := 29) rfl rfl (by cases h0; rfl) dX9_isSign_29
theorem dX9_step_0 : decode cX9_step 0 = .ok (.aload_n 0, 1) := by decide +kernel
theorem dX9_step_1 : decode cX9_step 1 = .ok (.aload_n 0, 1) := by decide +kernel
theorem dX9_step_2 : decode cX9_step 2 = .ok (.getfield 28, 3) := by decide +kernel
theorem dX9_step_5 : decode cX9_step 5 = .ok (.putfield 25, 3) := by decide +kernel
theorem dX9_step_8 : decode cX9_step 8 = .ok (.aload_n 0, 1) := by decide +kernel
theorem dX9_step_9 : decode cX9_step 9 = .ok (.getfield 25, 3) := by decide +kernel
theorem dX9_step_12 : decode cX9_step 12 = .ok (.aload_n 0, 1) := by decide +kernel
theorem dX9_step_13 : decode cX9_step 13 = .ok (.getfield 9, 3) := by decide +kernel
theorem dX9_step_16 : decode cX9_step 16 = .ok (.getfield 174, 3) := by decide +kernel
theorem dX9_step_19 : decode cX9_step 19 = .ok (.if_icmp .ge 48, 3) := by decide +kernel
theorem dX9_step_22 : decode cX9_step 22 = .ok (.aload_n 0, 1) := by decide +kernel
theorem dX9_step_23 : decode cX9_step 23 = .ok (.getfield 9, 3) := by decide +kernel
theorem dX9_step_26 : decode cX9_step 26 = .ok (.aload_n 0, 1) := by decide +kernel
theorem dX9_step_27 : decode cX9_step 27 = .ok (.getfield 25, 3) := by decide +kernel
theorem dX9_step_30 : decode cX9_step 30 = .ok (.invokevirtual 166, 3) := by decide +kernel
theorem dX9_step_33 : decode cX9_step 33 = .ok (.bipush 10, 2) := by decide +kernel
theorem dX9_step_35 : decode cX9_step 35 = .ok (.if_icmp .eq 19, 3) := by decide +kernel
theorem dX9_step_38 : decode cX9_step 38 = .ok (.aload_n 0, 1) := by decide +kernel
theorem dX9_step_39 : decode cX9_step 39 = .ok (.getfield 9, 3) := by decide +kernel
theorem dX9_step_42 : decode cX9_step 42 = .ok (.aload_n 0, 1) := by decide +kernel
theorem dX9_step_43 : decode cX9_step 43 = .ok (.getfield 25, 3) := by decide +kernel
theorem dX9_step_46 : decode cX9_step 46 = .ok (.invokevirtual 166, 3) := by decide +kernel
theorem dX9_step_49 : decode cX9_step 49 = .ok (.bipush 32, 2) := by decide +kernel
theorem dX9_step_51 : decode cX9_step 51 = .ok (.if_icmp .ne 16, 3) := by decide +kernel
theorem dX9_step_54 : decode cX9_step 54 = .ok (.aload_n 0, 1) := by decide +kernel
theorem dX9_step_55 : decode cX9_step 55 = .ok (.dup, 1) := by decide +kernel
theorem dX9_step_56 : decode cX9_step 56 = .ok (.getfield 25, 3) := by decide +kernel
theorem dX9_step_59 : decode cX9_step 59 = .ok (.iconst 1, 1) := by decide +kernel
theorem dX9_step_60 : decode cX9_step 60 = .ok (.iadd, 1) := by decide +kernel
theorem dX9_step_61 : decode cX9_step 61 = .ok (.putfield 25, 3) := by decide +kernel
theorem dX9_step_64 : decode cX9_step 64 = .ok (.goto (-56), 3) := by decide +kernel
theorem dX9_step_67 : decode cX9_step 67 = .ok (.aload_n 0, 1) := by decide +kernel
theorem dX9_step_68 : decode cX9_step 68 = .ok (.aload_n 0, 1) := by decide +kernel
theorem dX9_step_69 : decode cX9_step 69 = .ok (.getfield 25, 3) := by decide +kernel
theorem dX9_step_72 : decode cX9_step 72 = .ok (.putfield 28, 3) := by decide +kernel
theorem dX9_step_75 : decode cX9_step 75 = .ok (.aload_n 0, 1) := by decide +kernel
theorem dX9_step_76 : decode cX9_step 76 = .ok (.lconst 0, 1) := by decide +kernel
theorem dX9_step_77 : decode cX9_step 77 = .ok (.putfield 31, 3) := by decide +kernel
theorem dX9_step_80 : decode cX9_step 80 = .ok (.aload_n 0, 1) := by decide +kernel
theorem dX9_step_81 : decode cX9_step 81 = .ok (.getfield 25, 3) := by decide +kernel
theorem dX9_step_84 : decode cX9_step 84 = .ok (.sipush 2000, 3) := by decide +kernel
theorem dX9_step_87 : decode cX9_step 87 = .ok (.if_icmp .lt 33, 3) := by decide +kernel
theorem dX9_step_90 : decode cX9_step 90 = .ok (.aload_n 0, 1) := by decide +kernel
theorem dX9_step_91 : decode cX9_step 91 = .ok (.getfield 9, 3) := by decide +kernel
theorem dX9_step_94 : decode cX9_step 94 = .ok (.getfield 174, 3) := by decide +kernel
theorem dX9_step_97 : decode cX9_step 97 = .ok (.sipush 2000, 3) := by decide +kernel
theorem dX9_step_100 : decode cX9_step 100 = .ok (.if_icmp .le 20, 3) := by decide +kernel
theorem dX9_step_103 : decode cX9_step 103 = .ok (.aload_n 0, 1) := by decide +kernel
theorem dX9_step_104 : decode cX9_step 104 = .ok (.sipush 261, 3) := by decide +kernel
theorem dX9_step_107 : decode cX9_step 107 = .ok (.putfield 22, 3) := by decide +kernel
theorem dX9_step_110 : decode cX9_step 110 = .ok (.aload_n 0, 1) := by decide +kernel
theorem dX9_step_111 : decode cX9_step 111 = .ok (.sipush 2000, 3) := by decide +kernel
theorem dX9_step_114 : decode cX9_step 114 = .ok (.putfield 25, 3) := by decide +kernel
theorem dX9_step_117 : decode cX9_step 117 = .ok (.goto 99, 3) := by decide +kernel
theorem dX9_step_120 : decode cX9_step 120 = .ok (.aload_n 0, 1) := by decide +kernel
theorem dX9_step_121 : decode cX9_step 121 = .ok (.getfield 25, 3) := by decide +kernel
theorem dX9_step_124 : decode cX9_step 124 = .ok (.aload_n 0, 1) := by decide +kernel
theorem dX9_step_125 : decode cX9_step 125 = .ok (.getfield 9, 3) := by decide +kernel
theorem dX9_step_128 : decode cX9_step 128 = .ok (.getfield 174, 3) := by decide +kernel
theorem dX9_step_131 : decode cX9_step 131 = .ok (.if_icmp .lt 13, 3) := by decide +kernel
theorem dX9_step_134 : decode cX9_step 134 = .ok (.aload_n 0, 1) := by decide +kernel
theorem dX9_step_135 : decode cX9_step 135 = .ok (.sipush 256, 3) := by decide +kernel
theorem dX9_step_138 : decode cX9_step 138 = .ok (.putfield 22, 3) := by decide +kernel
theorem dX9_step_141 : decode cX9_step 141 = .ok (.goto 75, 3) := by decide +kernel
theorem dX9_step_144 : decode cX9_step 144 = .ok (.aload_n 0, 1) := by decide +kernel
theorem dX9_step_145 : decode cX9_step 145 = .ok (.getfield 9, 3) := by decide +kernel
theorem dX9_step_148 : decode cX9_step 148 = .ok (.aload_n 0, 1) := by decide +kernel
theorem dX9_step_149 : decode cX9_step 149 = .ok (.getfield 25, 3) := by decide +kernel
theorem dX9_step_152 : decode cX9_step 152 = .ok (.invokevirtual 166, 3) := by decide +kernel
theorem dX9_step_155 : decode cX9_step 155 = .ok (.invokestatic 175, 3) := by decide +kernel
theorem dX9_step_158 : decode cX9_step 158 = .ok (.ifCond .eq 10, 3) := by decide +kernel
theorem dX9_step_161 : decode cX9_step 161 = .ok (.aload_n 0, 1) := by decide +kernel
theorem dX9_step_162 : decode cX9_step 162 = .ok (.invokevirtual 179, 3) := by decide +kernel
theorem dX9_step_165 : decode cX9_step 165 = .ok (.goto 51, 3) := by decide +kernel
theorem dX9_step_168 : decode cX9_step 168 = .ok (.aload_n 0, 1) := by decide +kernel
theorem dX9_step_169 : decode cX9_step 169 = .ok (.aload_n 0, 1) := by decide +kernel
theorem dX9_step_170 : decode cX9_step 170 = .ok (.getfield 9, 3) := by decide +kernel
theorem dX9_step_173 : decode cX9_step 173 = .ok (.aload_n 0, 1) := by decide +kernel
theorem dX9_step_174 : decode cX9_step 174 = .ok (.getfield 25, 3) := by decide +kernel
theorem dX9_step_177 : decode cX9_step 177 = .ok (.invokevirtual 166, 3) := by decide +kernel
theorem dX9_step_180 : decode cX9_step 180 = .ok (.invokestatic 182, 3) := by decide +kernel
theorem dX9_step_183 : decode cX9_step 183 = .ok (.ifCond .eq 17, 3) := by decide +kernel
theorem dX9_step_186 : decode cX9_step 186 = .ok (.aload_n 0, 1) := by decide +kernel
theorem dX9_step_187 : decode cX9_step 187 = .ok (.getfield 9, 3) := by decide +kernel
theorem dX9_step_190 : decode cX9_step 190 = .ok (.aload_n 0, 1) := by decide +kernel
theorem dX9_step_191 : decode cX9_step 191 = .ok (.getfield 25, 3) := by decide +kernel
theorem dX9_step_194 : decode cX9_step 194 = .ok (.invokevirtual 166, 3) := by decide +kernel
theorem dX9_step_197 : decode cX9_step 197 = .ok (.goto 6, 3) := by decide +kernel
theorem dX9_step_200 : decode cX9_step 200 = .ok (.sipush 260, 3) := by decide +kernel
theorem dX9_step_203 : decode cX9_step 203 = .ok (.putfield 22, 3) := by decide +kernel
theorem dX9_step_206 : decode cX9_step 206 = .ok (.aload_n 0, 1) := by decide +kernel
theorem dX9_step_207 : decode cX9_step 207 = .ok (.aload_n 0, 1) := by decide +kernel
theorem dX9_step_208 : decode cX9_step 208 = .ok (.getfield 25, 3) := by decide +kernel
theorem dX9_step_211 : decode cX9_step 211 = .ok (.iconst 1, 1) := by decide +kernel
theorem dX9_step_212 : decode cX9_step 212 = .ok (.iadd, 1) := by decide +kernel
theorem dX9_step_213 : decode cX9_step 213 = .ok (.putfield 28, 3) := by decide +kernel
theorem dX9_step_216 : decode cX9_step 216 = .ok (.return_, 1) := by decide +kernel
def f_X9_step_203 (F : Nat) (l0 : Nat) (s0 : Int32) (s1 : Nat) (S : gk_S) : Option (Unit × gk_S) := qk (isb S s1 7) <| qv (sI S 703 s1 s0) fun S95 => qk (isb S95 l0 7) <| qv (gI S95 704 l0) fun x100 => qv (sI S95 705 l0 (x100 + 1)) fun S103 => some ((), S103)
theorem e_X9_step_203 {X : gk_X} {F : Nat} {l0 : Nat} {s0 : Int32} {s1 : Nat} {S : gk_S} {r : (Unit × gk_S)} (h0 : f_X9_step_203 F l0 s0 s1 S = some r) : EvW X m_X9_step 6 0 0 203 [some (.ref l0)] [.int s0, .ref s1] S (qRU r) := by
  unfold f_X9_step_203 at h0
  obtain ⟨g93, h94⟩ := qk_el h0; clear h0
  obtain ⟨S95, e96, h97⟩ := qv_el h94; clear h94
  refine yv_putI (pc := 203) fn_703 ⟨rfl, rfl⟩ (isb_el g93) e96 gw_123 dX9_step_203 ?_
  refine ev_aload_n (pc := 206) (i := 0) rfl rfl rfl dX9_step_206 ?_
  refine ev_aload_n (pc := 207) (i := 0) rfl rfl rfl dX9_step_207 ?_
  obtain ⟨g98, h99⟩ := qk_el h97; clear h97
  obtain ⟨x100, e101, h102⟩ := qv_el h99; clear h99
  refine xv_getIv (pc := 208) fn_704 (isb_el g98) e101 gw_124 dX9_step_208 ?_
  refine ev_iconst (pc := 211) (v := 1) (by decide) dX9_step_211 ?_
  refine ev_iadd (pc := 212)  dX9_step_212 ?_
  obtain ⟨S103, e104, h105⟩ := qv_el h102; clear h102
  refine yv_putI (pc := 213) fn_705 ⟨rfl, rfl⟩ (isb_el g98) e104 gw_125 dX9_step_213 ?_
  exact ev_return (pc := 216) rfl (by cases h105; rfl) dX9_step_216
def f_X9_step_120 (F : Nat) (l0 : Nat) (S : gk_S) : Option (Unit × gk_S) := qk (isb S l0 7) <| qv (gI S 704 l0) fun x42 => qP (gP S 700 l0) fun b45 => qk (isb S b45 1) <| qv (gI S 101 b45) fun x50 => if x42 < x50 then (qP (gP S 700 l0) fun b55 => qv (gI S 704 l0) fun x58 => qk (isb S b55 1) <| qc (f_X2_at F S b55 x58) fun x63 S64 => qc (f_X9_isLetterOrDigit F S64 x63) fun x67 S68 => if x67 = (0 : Int32) then (qk (isb S68 l0 7) <| qP (gP S68 700 l0) fun b75 => qv (gI S68 704 l0) fun x78 => qk (isb S68 b75 1) <| qc (f_X2_at F S68 b75 x78) fun x83 S84 => qc (f_X9_isSign F S84 x83) fun x87 S88 => if x87 = (0 : Int32) then (f_X9_step_203 F l0 260 l0 S88) else qk (isb S88 l0 7) <| qP (gP S88 700 l0) fun b108 => qv (gI S88 704 l0) fun x111 => qk (isb S88 b108 1) <| qc (f_X2_at F S88 b108 x111) fun x116 S117 => f_X9_step_203 F l0 x116 l0 S117) else qk (isb S68 l0 7) <| qc (f_X9_readRun F S68 l0) fun x122 S123 => some ((), S123)) else qv (sI S 703 l0 256) fun S126 => some ((), S126)
theorem e_X9_step_120 {X : gk_X} {F : Nat} {l0 : Nat} {S : gk_S} {r : (Unit × gk_S)} (h0 : f_X9_step_120 F l0 S = some r) : EvW X m_X9_step 6 0 0 120 [some (.ref l0)] [] S (qRU r) := by
  unfold f_X9_step_120 at h0
  refine ev_aload_n (pc := 120) (i := 0) rfl rfl rfl dX9_step_120 ?_
  obtain ⟨g40, h41⟩ := qk_el h0; clear h0
  obtain ⟨x42, e43, h44⟩ := qv_el h41; clear h41
  refine xv_getIv (pc := 121) fn_704 (isb_el g40) e43 gw_124 dX9_step_121 ?_
  refine ev_aload_n (pc := 124) (i := 0) rfl rfl rfl dX9_step_124 ?_
  obtain ⟨b45, e46, h47⟩ := qP_el h44; clear h44
  refine xv_getP (pc := 125) fn_700 (isb_el g40) e46 gw_118 dX9_step_125 ?_
  obtain ⟨g48, h49⟩ := qk_el h47; clear h47
  obtain ⟨x50, e51, h52⟩ := qv_el h49; clear h49
  refine xv_getIv (pc := 128) fn_101 (isb_el g48) e51 gw_43 dX9_step_128 ?_
  refine ev_ic_lt (pc := 131) (tgt := 144) (by decide) dX9_step_131 (fun c53 => ?_) (fun c53 => ?_)
  · replace h52 := qi_t h52 c53
    refine ev_aload_n (pc := 144) (i := 0) rfl rfl rfl dX9_step_144 ?_
    obtain ⟨b55, e56, h57⟩ := qP_el h52; clear h52
    refine xv_getP (pc := 145) fn_700 (isb_el g40) e56 gw_118 dX9_step_145 ?_
    refine ev_aload_n (pc := 148) (i := 0) rfl rfl rfl dX9_step_148 ?_
    obtain ⟨x58, e59, h60⟩ := qv_el h57; clear h57
    refine xv_getIv (pc := 149) fn_704 (isb_el g40) e59 gw_124 dX9_step_149 ?_
    obtain ⟨g61, h62⟩ := qk_el h60; clear h60
    obtain ⟨x63, S64, e65, h66⟩ := qc_el h62; clear h62
    refine xv_callV (pc := 152) (st := []) (as := [.int x58]) (v := (some (.int x63))) (S' := S64) ok_X2_at (e_X2_at e65) (isb_el g61) (by decide) rfl (Nat.le_of_ble_eq_true rfl) rfl gw_468 dX9_step_152 ?_
    obtain ⟨x67, S68, e69, h70⟩ := qc_el h66; clear h66
    refine xv_callS (pc := 155) (st := []) (as := [.int x63]) (v := (some (.int x67))) (S' := S68) ok_X9_isLetterOrDigit (e_X9_isLetterOrDigit e69) (by decide) rfl (Nat.le_of_ble_eq_true rfl) rfl gw_472 dX9_step_155 ?_
    refine ev_if_eq (pc := 158) (tgt := 168) (by decide) dX9_step_158 (fun c71 => ?_) (fun c71 => ?_)
    · replace h70 := qi_t h70 c71
      refine ev_aload_n (pc := 168) (i := 0) rfl rfl rfl dX9_step_168 ?_
      refine ev_aload_n (pc := 169) (i := 0) rfl rfl rfl dX9_step_169 ?_
      obtain ⟨g73, h74⟩ := qk_el h70; clear h70
      obtain ⟨b75, e76, h77⟩ := qP_el h74; clear h74
      refine xv_getP (pc := 170) fn_700 (isb_el g73) e76 gw_118 dX9_step_170 ?_
      refine ev_aload_n (pc := 173) (i := 0) rfl rfl rfl dX9_step_173 ?_
      obtain ⟨x78, e79, h80⟩ := qv_el h77; clear h77
      refine xv_getIv (pc := 174) fn_704 (isb_el g73) e79 gw_124 dX9_step_174 ?_
      obtain ⟨g81, h82⟩ := qk_el h80; clear h80
      obtain ⟨x83, S84, e85, h86⟩ := qc_el h82; clear h82
      refine xv_callV (pc := 177) (st := [.ref l0]) (as := [.int x78]) (v := (some (.int x83))) (S' := S84) ok_X2_at (e_X2_at e85) (isb_el g81) (by decide) rfl (Nat.le_of_ble_eq_true rfl) rfl gw_468 dX9_step_177 ?_
      obtain ⟨x87, S88, e89, h90⟩ := qc_el h86; clear h86
      refine xv_callS (pc := 180) (st := [.ref l0]) (as := [.int x83]) (v := (some (.int x87))) (S' := S88) ok_X9_isSign (e_X9_isSign e89) (by decide) rfl (Nat.le_of_ble_eq_true rfl) rfl gw_495 dX9_step_180 ?_
      refine ev_if_eq (pc := 183) (tgt := 200) (by decide) dX9_step_183 (fun c91 => ?_) (fun c91 => ?_)
      · replace h90 := qi_t h90 c91
        refine ev_sipush (pc := 200) (v := 260) (by decide) dX9_step_200 ?_
        exact ev_weak (qL_s qL_nil) (e_X9_step_203 h90)
      · replace h90 := qi_f h90 c91
        refine ev_aload_n (pc := 186) (i := 0) rfl rfl rfl dX9_step_186 ?_
        obtain ⟨g106, h107⟩ := qk_el h90; clear h90
        obtain ⟨b108, e109, h110⟩ := qP_el h107; clear h107
        refine xv_getP (pc := 187) fn_700 (isb_el g106) e109 gw_118 dX9_step_187 ?_
        refine ev_aload_n (pc := 190) (i := 0) rfl rfl rfl dX9_step_190 ?_
        obtain ⟨x111, e112, h113⟩ := qv_el h110; clear h110
        refine xv_getIv (pc := 191) fn_704 (isb_el g106) e112 gw_124 dX9_step_191 ?_
        obtain ⟨g114, h115⟩ := qk_el h113; clear h113
        obtain ⟨x116, S117, e118, h119⟩ := qc_el h115; clear h115
        refine xv_callV (pc := 194) (st := [.ref l0]) (as := [.int x111]) (v := (some (.int x116))) (S' := S117) ok_X2_at (e_X2_at e118) (isb_el g114) (by decide) rfl (Nat.le_of_ble_eq_true rfl) rfl gw_468 dX9_step_194 ?_
        refine ev_goto (pc := 197) (tgt := 203) (by decide) dX9_step_197 ?_
        exact ev_weak (qL_s qL_nil) (e_X9_step_203 h119)
    · replace h70 := qi_f h70 c71
      refine ev_aload_n (pc := 161) (i := 0) rfl rfl rfl dX9_step_161 ?_
      obtain ⟨g120, h121⟩ := qk_el h70; clear h70
      obtain ⟨x122, S123, e124, h125⟩ := qc_el h121; clear h121
      refine xv_callV (pc := 162) (st := []) (as := []) (v := none) (S' := S123) ok_X9_readRun (e_X9_readRun e124) (isb_el g120) (by decide) rfl (Nat.le_of_ble_eq_true rfl) rfl gw_478 dX9_step_162 ?_
      refine ev_goto (pc := 165) (tgt := 216) (by decide) dX9_step_165 ?_
      exact ev_return (pc := 216) rfl (by cases h125; rfl) dX9_step_216
  · replace h52 := qi_f h52 c53
    refine ev_aload_n (pc := 134) (i := 0) rfl rfl rfl dX9_step_134 ?_
    refine ev_sipush (pc := 135) (v := 256) (by decide) dX9_step_135 ?_
    obtain ⟨S126, e127, h128⟩ := qv_el h52; clear h52
    refine yv_putI (pc := 138) fn_703 ⟨rfl, rfl⟩ (isb_el g40) e127 gw_123 dX9_step_138 ?_
    refine ev_goto (pc := 141) (tgt := 216) (by decide) dX9_step_141 ?_
    exact ev_return (pc := 216) rfl (by cases h128; rfl) dX9_step_216
def f_X9_step_67 (F : Nat) (l0 : Nat) (S : gk_S) : Option (Unit × gk_S) := qk (isb S l0 7) <| qv (gI S 704 l0) fun x26 => qv (sI S 705 l0 x26) fun S29 => qv (sJ S29 706 l0 0) fun S32 => qv (gI S32 704 l0) fun x35 => if x35 < (2000 : Int32) then (f_X9_step_120 F l0 S32) else qP (gP S32 700 l0) fun b129 => qk (isb S32 b129 1) <| qv (gI S32 101 b129) fun x134 => if x134 ≤ (2000 : Int32) then (f_X9_step_120 F l0 S32) else qv (sI S32 703 l0 261) fun S139 => qv (sI S139 704 l0 2000) fun S142 => some ((), S142)
theorem e_X9_step_67 {X : gk_X} {F : Nat} {l0 : Nat} {S : gk_S} {r : (Unit × gk_S)} (h0 : f_X9_step_67 F l0 S = some r) : EvW X m_X9_step 6 0 0 67 [some (.ref l0)] [] S (qRU r) := by
  unfold f_X9_step_67 at h0
  refine ev_aload_n (pc := 67) (i := 0) rfl rfl rfl dX9_step_67 ?_
  refine ev_aload_n (pc := 68) (i := 0) rfl rfl rfl dX9_step_68 ?_
  obtain ⟨g24, h25⟩ := qk_el h0; clear h0
  obtain ⟨x26, e27, h28⟩ := qv_el h25; clear h25
  refine xv_getIv (pc := 69) fn_704 (isb_el g24) e27 gw_124 dX9_step_69 ?_
  obtain ⟨S29, e30, h31⟩ := qv_el h28; clear h28
  refine yv_putI (pc := 72) fn_705 ⟨rfl, rfl⟩ (isb_el g24) e30 gw_125 dX9_step_72 ?_
  refine ev_aload_n (pc := 75) (i := 0) rfl rfl rfl dX9_step_75 ?_
  refine ev_lconst (pc := 76) (v := 0) (by decide) dX9_step_76 ?_
  obtain ⟨S32, e33, h34⟩ := qv_el h31; clear h31
  refine yv_putJ (pc := 77) fn_706 (is_sI (isb_el g24) e30) e33 gw_126 dX9_step_77 ?_
  refine ev_aload_n (pc := 80) (i := 0) rfl rfl rfl dX9_step_80 ?_
  obtain ⟨x35, e36, h37⟩ := qv_el h34; clear h34
  refine xv_getIv (pc := 81) fn_704 (is_sJ (is_sI (isb_el g24) e30) e33) e36 gw_124 dX9_step_81 ?_
  refine ev_sipush (pc := 84) (v := 2000) (by decide) dX9_step_84 ?_
  refine ev_ic_lt (pc := 87) (tgt := 120) (by decide) dX9_step_87 (fun c38 => ?_) (fun c38 => ?_)
  · replace h37 := qi_t h37 c38
    exact ev_weak (qL_s qL_nil) (e_X9_step_120 h37)
  · replace h37 := qi_f h37 c38
    refine ev_aload_n (pc := 90) (i := 0) rfl rfl rfl dX9_step_90 ?_
    obtain ⟨b129, e130, h131⟩ := qP_el h37; clear h37
    refine xv_getP (pc := 91) fn_700 (is_sJ (is_sI (isb_el g24) e30) e33) e130 gw_118 dX9_step_91 ?_
    obtain ⟨g132, h133⟩ := qk_el h131; clear h131
    obtain ⟨x134, e135, h136⟩ := qv_el h133; clear h133
    refine xv_getIv (pc := 94) fn_101 (isb_el g132) e135 gw_43 dX9_step_94 ?_
    refine ev_sipush (pc := 97) (v := 2000) (by decide) dX9_step_97 ?_
    refine ev_ic_le (pc := 100) (tgt := 120) (by decide) dX9_step_100 (fun c137 => ?_) (fun c137 => ?_)
    · replace h136 := qi_t h136 c137
      exact ev_weak (qL_s qL_nil) (e_X9_step_120 h136)
    · replace h136 := qi_f h136 c137
      refine ev_aload_n (pc := 103) (i := 0) rfl rfl rfl dX9_step_103 ?_
      refine ev_sipush (pc := 104) (v := 261) (by decide) dX9_step_104 ?_
      obtain ⟨S139, e140, h141⟩ := qv_el h136; clear h136
      refine yv_putI (pc := 107) fn_703 ⟨rfl, rfl⟩ (is_sJ (is_sI (isb_el g24) e30) e33) e140 gw_123 dX9_step_107 ?_
      refine ev_aload_n (pc := 110) (i := 0) rfl rfl rfl dX9_step_110 ?_
      refine ev_sipush (pc := 111) (v := 2000) (by decide) dX9_step_111 ?_
      obtain ⟨S142, e143, h144⟩ := qv_el h141; clear h141
      refine yv_putI (pc := 114) fn_704 ⟨rfl, rfl⟩ (is_sI (is_sJ (is_sI (isb_el g24) e30) e33) e140) e143 gw_124 dX9_step_114 ?_
      refine ev_goto (pc := 117) (tgt := 216) (by decide) dX9_step_117 ?_
      exact ev_return (pc := 216) rfl (by cases h144; rfl) dX9_step_216
def f_X9_step_54 (F : Nat) (k8 : Nat → gk_S → Option (Unit × gk_S)) (l0 : Nat) (S : gk_S) : Option (Unit × gk_S) := qk (isb S l0 7) <| qv (gI S 704 l0) fun x161 => qv (sI S 704 l0 (x161 + 1)) fun S164 => k8 l0 S164
theorem e_X9_step_54 {X : gk_X} {F : Nat} {k8 : Nat → gk_S → Option (Unit × gk_S)} (hk8 : ∀ (l0 : Nat) (S : gk_S) (r : (Unit × gk_S)), k8 l0 S = some r → EvW X m_X9_step 6 0 0 8 [some (.ref l0)] [] S (qRU r)) {l0 : Nat} {S : gk_S} {r : (Unit × gk_S)} (h0 : f_X9_step_54 F k8 l0 S = some r) : EvW X m_X9_step 6 0 0 54 [some (.ref l0)] [] S (qRU r) := by
  unfold f_X9_step_54 at h0
  refine ev_aload_n (pc := 54) (i := 0) rfl rfl rfl dX9_step_54 ?_
  refine ev_dup (pc := 55) (.inr rfl) dX9_step_55 ?_
  obtain ⟨g159, h160⟩ := qk_el h0; clear h0
  obtain ⟨x161, e162, h163⟩ := qv_el h160; clear h160
  refine xv_getIv (pc := 56) fn_704 (isb_el g159) e162 gw_124 dX9_step_56 ?_
  refine ev_iconst (pc := 59) (v := 1) (by decide) dX9_step_59 ?_
  refine ev_iadd (pc := 60)  dX9_step_60 ?_
  obtain ⟨S164, e165, h166⟩ := qv_el h163; clear h163
  refine yv_putI (pc := 61) fn_704 ⟨rfl, rfl⟩ (isb_el g159) e165 gw_124 dX9_step_61 ?_
  refine ev_goto (pc := 64) (tgt := 8) (by decide) dX9_step_64 ?_
  exact ev_weak (qL_s qL_nil) (hk8 _ _ _ h166)
def f_X9_step_8 (F : Nat) : Nat → Nat → gk_S → Option (Unit × gk_S)
  | 0, _, _ => none
  | n + 1, l0, S => qk (isb S l0 7) <| qv (gI S 704 l0) fun x11 => qP (gP S 700 l0) fun b14 => qk (isb S b14 1) <| qv (gI S 101 b14) fun x19 => if x19 ≤ x11 then (f_X9_step_67 F l0 S) else qP (gP S 700 l0) fun b145 => qv (gI S 704 l0) fun x148 => qk (isb S b145 1) <| qc (f_X2_at F S b145 x148) fun x153 S154 => if x153 = (10 : Int32) then (f_X9_step_54 F (f_X9_step_8 F n) l0 S154) else qk (isb S154 l0 7) <| qP (gP S154 700 l0) fun b169 => qv (gI S154 704 l0) fun x172 => qk (isb S154 b169 1) <| qc (f_X2_at F S154 b169 x172) fun x177 S178 => if x177 = (32 : Int32) then (f_X9_step_54 F (f_X9_step_8 F n) l0 S178) else f_X9_step_67 F l0 S178
theorem e_X9_step_8 {X : gk_X} {F : Nat} : ∀ (n : Nat) (l0 : Nat) (S : gk_S) (r : (Unit × gk_S)), f_X9_step_8 F n l0 S = some r → EvW X m_X9_step 6 0 0 8 [some (.ref l0)] [] S (qRU r) := by
  intro n
  induction n with
  | zero => intro l0 S r h0; rw [f_X9_step_8] at h0; cases h0
  | succ n ih =>
    intro l0 S r h0; rw [f_X9_step_8] at h0
    refine ev_aload_n (pc := 8) (i := 0) rfl rfl rfl dX9_step_8 ?_
    obtain ⟨g9, h10⟩ := qk_el h0; clear h0
    obtain ⟨x11, e12, h13⟩ := qv_el h10; clear h10
    refine xv_getIv (pc := 9) fn_704 (isb_el g9) e12 gw_124 dX9_step_9 ?_
    refine ev_aload_n (pc := 12) (i := 0) rfl rfl rfl dX9_step_12 ?_
    obtain ⟨b14, e15, h16⟩ := qP_el h13; clear h13
    refine xv_getP (pc := 13) fn_700 (isb_el g9) e15 gw_118 dX9_step_13 ?_
    obtain ⟨g17, h18⟩ := qk_el h16; clear h16
    obtain ⟨x19, e20, h21⟩ := qv_el h18; clear h18
    refine xv_getIv (pc := 16) fn_101 (isb_el g17) e20 gw_43 dX9_step_16 ?_
    refine ev_ic_ge (pc := 19) (tgt := 67) (by decide) dX9_step_19 (fun c22 => ?_) (fun c22 => ?_)
    · replace h21 := qi_t h21 c22
      exact ev_weak (qL_s qL_nil) (e_X9_step_67 h21)
    · replace h21 := qi_f h21 c22
      refine ev_aload_n (pc := 22) (i := 0) rfl rfl rfl dX9_step_22 ?_
      obtain ⟨b145, e146, h147⟩ := qP_el h21; clear h21
      refine xv_getP (pc := 23) fn_700 (isb_el g9) e146 gw_118 dX9_step_23 ?_
      refine ev_aload_n (pc := 26) (i := 0) rfl rfl rfl dX9_step_26 ?_
      obtain ⟨x148, e149, h150⟩ := qv_el h147; clear h147
      refine xv_getIv (pc := 27) fn_704 (isb_el g9) e149 gw_124 dX9_step_27 ?_
      obtain ⟨g151, h152⟩ := qk_el h150; clear h150
      obtain ⟨x153, S154, e155, h156⟩ := qc_el h152; clear h152
      refine xv_callV (pc := 30) (st := []) (as := [.int x148]) (v := (some (.int x153))) (S' := S154) ok_X2_at (e_X2_at e155) (isb_el g151) (by decide) rfl (Nat.le_of_ble_eq_true rfl) rfl gw_468 dX9_step_30 ?_
      refine ev_bipush (pc := 33) (v := 10) (by decide) dX9_step_33 ?_
      refine ev_ic_eq (pc := 35) (tgt := 54) (by decide) dX9_step_35 (fun c157 => ?_) (fun c157 => ?_)
      · replace h156 := qi_t h156 c157
        exact ev_weak (qL_s qL_nil) (e_X9_step_54 ih h156)
      · replace h156 := qi_f h156 c157
        refine ev_aload_n (pc := 38) (i := 0) rfl rfl rfl dX9_step_38 ?_
        obtain ⟨g167, h168⟩ := qk_el h156; clear h156
        obtain ⟨b169, e170, h171⟩ := qP_el h168; clear h168
        refine xv_getP (pc := 39) fn_700 (isb_el g167) e170 gw_118 dX9_step_39 ?_
        refine ev_aload_n (pc := 42) (i := 0) rfl rfl rfl dX9_step_42 ?_
        obtain ⟨x172, e173, h174⟩ := qv_el h171; clear h171
        refine xv_getIv (pc := 43) fn_704 (isb_el g167) e173 gw_124 dX9_step_43 ?_
        obtain ⟨g175, h176⟩ := qk_el h174; clear h174
        obtain ⟨x177, S178, e179, h180⟩ := qc_el h176; clear h176
        refine xv_callV (pc := 46) (st := []) (as := [.int x172]) (v := (some (.int x177))) (S' := S178) ok_X2_at (e_X2_at e179) (isb_el g175) (by decide) rfl (Nat.le_of_ble_eq_true rfl) rfl gw_468 dX9_step_46 ?_
        refine ev_bipush (pc := 49) (v := 32) (by decide) dX9_step_49 ?_
        refine ev_ic_ne (pc := 51) (tgt := 67) (by decide) dX9_step_51 (fun c181 => ?_) (fun c181 => ?_)
        · replace h180 := qi_f h180 c181
          exact ev_weak (qL_s qL_nil) (e_X9_step_67 h180)
        · replace h180 := qi_t h180 c181
          exact ev_weak (qL_s qL_nil) (e_X9_step_54 ih h180)
def f_X9_step (F : Nat) (S : gk_S) (a : Nat) : Option (Unit × gk_S) := qk (isb S a 7) <| qv (gI S 705 a) fun x3 => qv (sI S 704 a x3) fun S6 => f_X9_step_8 F F a S6
theorem e_X9_step {X : gk_X} {F : Nat} {S : gk_S} {a : Nat} {r : (Unit × gk_S)} (h0 : f_X9_step F S a = some r) : EvM X m_X9_step 6 0 0 [.ref a] S (qRU r) := by
  unfold f_X9_step at h0
  refine ev_method (by decide +kernel) rfl rfl (Nat.le_of_ble_eq_true rfl) ?_
  show EvW X m_X9_step 6 0 0 0 [some (.ref a)] [] S _
  refine ev_aload_n (pc := 0) (i := 0) rfl rfl rfl dX9_step_0 ?_
  refine ev_aload_n (pc := 1) (i := 0) rfl rfl rfl dX9_step_1 ?_
  obtain ⟨g1, h2⟩ := qk_el h0; clear h0
  obtain ⟨x3, e4, h5⟩ := qv_el h2; clear h2
  refine xv_getIv (pc := 2) fn_705 (isb_el g1) e4 gw_125 dX9_step_2 ?_
  obtain ⟨S6, e7, h8⟩ := qv_el h5; clear h5
  refine yv_putI (pc := 5) fn_704 ⟨rfl, rfl⟩ (isb_el g1) e7 gw_124 dX9_step_5 ?_
  exact ev_weak (qL_s qL_nil) (e_X9_step_8 F _ _ _ h8)
theorem dX9_isWord_0 : decode cX9_isWord 0 = .ok (.aload_n 0, 1) := by decide +kernel
theorem dX9_isWord_1 : decode cX9_isWord 1 = .ok (.getfield 22, 3) := by decide +kernel
theorem dX9_isWord_4 : decode cX9_isWord 4 = .ok (.sipush 257, 3) := by decide +kernel
theorem dX9_isWord_7 : decode cX9_isWord 7 = .ok (.if_icmp .ne 19, 3) := by decide +kernel
theorem dX9_isWord_10 : decode cX9_isWord 10 = .ok (.aload_n 0, 1) := by decide +kernel
theorem dX9_isWord_11 : decode cX9_isWord 11 = .ok (.getfield 28, 3) := by decide +kernel
theorem dX9_isWord_14 : decode cX9_isWord 14 = .ok (.aload_n 0, 1) := by decide +kernel
theorem dX9_isWord_15 : decode cX9_isWord 15 = .ok (.getfield 25, 3) := by decide +kernel
theorem dX9_isWord_18 : decode cX9_isWord 18 = .ok (.isub, 1) := by decide +kernel
theorem dX9_isWord_19 : decode cX9_isWord 19 = .ok (.aload_n 1, 1) := by decide +kernel
theorem dX9_isWord_20 : decode cX9_isWord 20 = .ok (.invokevirtual 161, 3) := by decide +kernel
theorem dX9_isWord_23 : decode cX9_isWord 23 = .ok (.if_icmp .eq 5, 3) := by decide +kernel
theorem dX9_isWord_26 : decode cX9_isWord 26 = .ok (.iconst 0, 1) := by decide +kernel
theorem dX9_isWord_27 : decode cX9_isWord 27 = .ok (.ireturn, 1) := by decide +kernel
theorem dX9_isWord_28 : decode cX9_isWord 28 = .ok (.iconst 0, 1) := by decide +kernel
theorem dX9_isWord_29 : decode cX9_isWord 29 = .ok (.istore_n 2, 1) := by decide +kernel
theorem dX9_isWord_30 : decode cX9_isWord 30 = .ok (.iload_n 2, 1) := by decide +kernel
theorem dX9_isWord_31 : decode cX9_isWord 31 = .ok (.aload_n 1, 1) := by decide +kernel
theorem dX9_isWord_32 : decode cX9_isWord 32 = .ok (.invokevirtual 161, 3) := by decide +kernel
theorem dX9_isWord_35 : decode cX9_isWord 35 = .ok (.if_icmp .ge 32, 3) := by decide +kernel
theorem dX9_isWord_38 : decode cX9_isWord 38 = .ok (.aload_n 0, 1) := by decide +kernel
theorem dX9_isWord_39 : decode cX9_isWord 39 = .ok (.getfield 9, 3) := by decide +kernel
theorem dX9_isWord_42 : decode cX9_isWord 42 = .ok (.aload_n 0, 1) := by decide +kernel
theorem dX9_isWord_43 : decode cX9_isWord 43 = .ok (.getfield 25, 3) := by decide +kernel
theorem dX9_isWord_46 : decode cX9_isWord 46 = .ok (.iload_n 2, 1) := by decide +kernel
theorem dX9_isWord_47 : decode cX9_isWord 47 = .ok (.iadd, 1) := by decide +kernel
theorem dX9_isWord_48 : decode cX9_isWord 48 = .ok (.invokevirtual 166, 3) := by decide +kernel
theorem dX9_isWord_51 : decode cX9_isWord 51 = .ok (.aload_n 1, 1) := by decide +kernel
theorem dX9_isWord_52 : decode cX9_isWord 52 = .ok (.iload_n 2, 1) := by decide +kernel
theorem dX9_isWord_53 : decode cX9_isWord 53 = .ok (.invokevirtual 170, 3) := by decide +kernel
theorem dX9_isWord_56 : decode cX9_isWord 56 = .ok (.if_icmp .eq 5, 3) := by decide +kernel
theorem dX9_isWord_59 : decode cX9_isWord 59 = .ok (.iconst 0, 1) := by decide +kernel
theorem dX9_isWord_60 : decode cX9_isWord 60 = .ok (.ireturn, 1) := by decide +kernel
theorem dX9_isWord_61 : decode cX9_isWord 61 = .ok (.iinc 2 1, 3) := by decide +kernel
theorem dX9_isWord_64 : decode cX9_isWord 64 = .ok (.goto (-34), 3) := by decide +kernel
theorem dX9_isWord_67 : decode cX9_isWord 67 = .ok (.iconst 1, 1) := by decide +kernel
theorem dX9_isWord_68 : decode cX9_isWord 68 = .ok (.ireturn, 1) := by decide +kernel
def f_X9_isWord_30 (F : Nat) : Nat → Nat → Nat → Int32 → gk_S → Option (Int32 × gk_S)
  | 0, _, _, _, _ => none
  | n + 1, l0, l1, l2, S => qk (ltb l1 34) <| qc (f_J0_length_8abf5 F S l1) fun x23 S24 => if x23 ≤ l2 then (some (1, S24)) else qk (isb S24 l0 7) <| qP (gP S24 700 l0) fun b31 => qv (gI S24 704 l0) fun x34 => qk (isb S24 b31 1) <| qc (f_X2_at F S24 b31 (x34 + l2)) fun x39 S40 => qc (f_J0_charAt_5068e F S40 l1 l2) fun x43 S44 => if x39 = x43 then (f_X9_isWord_30 F n l0 l1 (l2 + 1) S44) else some (0, S44)
theorem e_X9_isWord_30 {X : gk_X} {F : Nat} : ∀ (n : Nat) (l0 : Nat) (l1 : Nat) (l2 : Int32) (S : gk_S) (r : (Int32 × gk_S)), f_X9_isWord_30 F n l0 l1 l2 S = some r → EvW X m_X9_isWord 5 0 0 30 [some (.ref l0), some (.retAddr (10 + l1)), some (.int l2)] [] S (qRI r) := by
  intro n
  induction n with
  | zero => intro l0 l1 l2 S r h0; rw [f_X9_isWord_30] at h0; cases h0
  | succ n ih =>
    intro l0 l1 l2 S r h0; rw [f_X9_isWord_30] at h0
    refine ev_iload_n (pc := 30) (i := 2) rfl rfl dX9_isWord_30 ?_
    obtain ⟨g21, h22⟩ := qk_el h0; clear h0
    refine ev_aload_n (pc := 31) (i := 1) rfl rfl (by simp [gk_isR]; have := (ltb_el g21); omega) dX9_isWord_31 ?_
    obtain ⟨x23, S24, e25, h26⟩ := qc_el h22; clear h22
    refine xv_callT (pc := 32) (st := [.int l2]) (as := []) (v := (some (.int x23))) (S' := S24) (i9 := l1) ok_J0_length_8abf5 (e_J0_length_8abf5 e25) (ltb_el g21) (by decide) rfl (Nat.le_of_ble_eq_true rfl) rfl gw_507 dX9_isWord_32 ?_
    refine ev_ic_ge (pc := 35) (tgt := 67) (by decide) dX9_isWord_35 (fun c27 => ?_) (fun c27 => ?_)
    · replace h26 := qi_t h26 c27
      refine ev_iconst (pc := 67) (v := 1) (by decide) dX9_isWord_67 ?_
      exact ev_ireturn (pc := 68) rfl rfl (by cases h26; rfl) dX9_isWord_68
    · replace h26 := qi_f h26 c27
      refine ev_aload_n (pc := 38) (i := 0) rfl rfl rfl dX9_isWord_38 ?_
      obtain ⟨g29, h30⟩ := qk_el h26; clear h26
      obtain ⟨b31, e32, h33⟩ := qP_el h30; clear h30
      refine xv_getP (pc := 39) fn_700 (isb_el g29) e32 gw_118 dX9_isWord_39 ?_
      refine ev_aload_n (pc := 42) (i := 0) rfl rfl rfl dX9_isWord_42 ?_
      obtain ⟨x34, e35, h36⟩ := qv_el h33; clear h33
      refine xv_getIv (pc := 43) fn_704 (isb_el g29) e35 gw_124 dX9_isWord_43 ?_
      refine ev_iload_n (pc := 46) (i := 2) rfl rfl dX9_isWord_46 ?_
      refine ev_iadd (pc := 47)  dX9_isWord_47 ?_
      obtain ⟨g37, h38⟩ := qk_el h36; clear h36
      obtain ⟨x39, S40, e41, h42⟩ := qc_el h38; clear h38
      refine xv_callV (pc := 48) (st := []) (as := [.int (x34 + l2)]) (v := (some (.int x39))) (S' := S40) ok_X2_at (e_X2_at e41) (isb_el g37) (by decide) rfl (Nat.le_of_ble_eq_true rfl) rfl gw_468 dX9_isWord_48 ?_
      refine ev_aload_n (pc := 51) (i := 1) rfl rfl (by simp [gk_isR]; have := (ltb_el g21); omega) dX9_isWord_51 ?_
      refine ev_iload_n (pc := 52) (i := 2) rfl rfl dX9_isWord_52 ?_
      obtain ⟨x43, S44, e45, h46⟩ := qc_el h42; clear h42
      refine xv_callT (pc := 53) (st := [.int x39]) (as := [.int l2]) (v := (some (.int x43))) (S' := S44) (i9 := l1) ok_J0_charAt_5068e (e_J0_charAt_5068e e45) (ltb_el g21) (by decide) rfl (Nat.le_of_ble_eq_true rfl) rfl gw_517 dX9_isWord_53 ?_
      refine ev_ic_eq (pc := 56) (tgt := 61) (by decide) dX9_isWord_56 (fun c47 => ?_) (fun c47 => ?_)
      · replace h46 := qi_t h46 c47
        refine ev_iinc (pc := 61) (L' := [some (.ref l0), some (.retAddr (10 + l1)), some (.int (l2 + 1))]) (i := 2) (v := (l2 + 1)) rfl rfl (by decide) (by simp [gk_okL, gk_isR]; have := (ltb_el g21); omega) rfl dX9_isWord_61 ?_
        refine ev_goto (pc := 64) (tgt := 30) (by decide) dX9_isWord_64 ?_
        exact (ev_weak (qL_s (qL_s (qL_s qL_nil))) (ih _ _ _ _ _ h46))
      · replace h46 := qi_f h46 c47
        refine ev_iconst (pc := 59) (v := 0) (by decide) dX9_isWord_59 ?_
        exact ev_ireturn (pc := 60) rfl rfl (by cases h46; rfl) dX9_isWord_60
def f_X9_isWord (F : Nat) (S : gk_S) (a : Nat) (p0 : Nat) : Option (Int32 × gk_S) := qk (ltb p0 34) <| qk (isb S a 7) <| qv (gI S 703 a) fun x4 => if x4 = (257 : Int32) then (qv (gI S 705 a) fun x9 => qv (gI S 704 a) fun x12 => qc (f_J0_length_8abf5 F S p0) fun x15 S16 => if (x9 - x12) = x15 then (f_X9_isWord_30 F F a p0 0 S16) else some (0, S16)) else some (0, S)
theorem e_X9_isWord {X : gk_X} {F : Nat} {S : gk_S} {a : Nat} {p0 : Nat} {r : (Int32 × gk_S)} (h0 : f_X9_isWord F S a p0 = some r) : EvM X m_X9_isWord 5 0 0 [.ref a, .retAddr (10 + p0)] S (qRI r) := by
  unfold f_X9_isWord at h0
  obtain ⟨g1, h1⟩ := qk_el h0; clear h0; rename _ => h0
  refine ev_method (by decide +kernel) rfl (by simp [gk_okv, gk_isR]; have := (ltb_el g1); omega) (Nat.le_of_ble_eq_true rfl) ?_
  show EvW X m_X9_isWord 5 0 0 0 [some (.ref a), some (.retAddr (10 + p0)), none] [] S _
  refine ev_aload_n (pc := 0) (i := 0) rfl rfl rfl dX9_isWord_0 ?_
  obtain ⟨g2, h3⟩ := qk_el h0; clear h0
  obtain ⟨x4, e5, h6⟩ := qv_el h3; clear h3
  refine xv_getIv (pc := 1) fn_703 (isb_el g2) e5 gw_123 dX9_isWord_1 ?_
  refine ev_sipush (pc := 4) (v := 257) (by decide) dX9_isWord_4 ?_
  refine ev_ic_ne (pc := 7) (tgt := 26) (by decide) dX9_isWord_7 (fun c7 => ?_) (fun c7 => ?_)
  · replace h6 := qi_f h6 c7
    refine ev_iconst (pc := 26) (v := 0) (by decide) dX9_isWord_26 ?_
    exact ev_ireturn (pc := 27) rfl rfl (by cases h6; rfl) dX9_isWord_27
  · replace h6 := qi_t h6 c7
    refine ev_aload_n (pc := 10) (i := 0) rfl rfl rfl dX9_isWord_10 ?_
    obtain ⟨x9, e10, h11⟩ := qv_el h6; clear h6
    refine xv_getIv (pc := 11) fn_705 (isb_el g2) e10 gw_125 dX9_isWord_11 ?_
    refine ev_aload_n (pc := 14) (i := 0) rfl rfl rfl dX9_isWord_14 ?_
    obtain ⟨x12, e13, h14⟩ := qv_el h11; clear h11
    refine xv_getIv (pc := 15) fn_704 (isb_el g2) e13 gw_124 dX9_isWord_15 ?_
    refine ev_isub (pc := 18)  dX9_isWord_18 ?_
    refine ev_aload_n (pc := 19) (i := 1) rfl rfl (by simp [gk_isR]; have := (ltb_el g1); omega) dX9_isWord_19 ?_
    obtain ⟨x15, S16, e17, h18⟩ := qc_el h14; clear h14
    refine xv_callT (pc := 20) (st := [.int (x9 - x12)]) (as := []) (v := (some (.int x15))) (S' := S16) (i9 := p0) ok_J0_length_8abf5 (e_J0_length_8abf5 e17) (ltb_el g1) (by decide) rfl (Nat.le_of_ble_eq_true rfl) rfl gw_507 dX9_isWord_20 ?_
    refine ev_ic_eq (pc := 23) (tgt := 28) (by decide) dX9_isWord_23 (fun c19 => ?_) (fun c19 => ?_)
    · replace h18 := qi_t h18 c19
      refine ev_iconst (pc := 28) (v := 0) (by decide) dX9_isWord_28 ?_
      refine ev_istore_n (pc := 29) (L' := [some (.ref a), some (.retAddr (10 + p0)), some (.int 0)]) (i := 2) rfl (by decide) (by simp [gk_okL, gk_isR]; have := (ltb_el g1); omega) rfl dX9_isWord_29 ?_
      exact ev_weak (qL_s (qL_s (qL_s qL_nil))) (e_X9_isWord_30 F _ _ _ _ _ h18)
    · replace h18 := qi_f h18 c19
      refine ev_iconst (pc := 26) (v := 0) (by decide) dX9_isWord_26 ?_
      exact ev_ireturn (pc := 27) rfl rfl (by cases h18; rfl) dX9_isWord_27
theorem dX9_go_0 : decode cX9_go 0 = .ok (.aload_n 0, 1) := by decide +kernel
theorem dX9_go_1 : decode cX9_go 1 = .ok (.iload_n 1, 1) := by decide +kernel
theorem dX9_go_2 : decode cX9_go 2 = .ok (.putfield 35, 3) := by decide +kernel
theorem dX9_go_5 : decode cX9_go 5 = .ok (.iconst 0, 1) := by decide +kernel
theorem dX9_go_6 : decode cX9_go 6 = .ok (.ireturn, 1) := by decide +kernel
def f_X9_go (F : Nat) (S : gk_S) (a : Nat) (p0 : Int32) : Option (Int32 × gk_S) := qk (isb S a 7) <| qv (sI S 707 a p0) fun S3 => some (0, S3)
theorem e_X9_go {X : gk_X} {F : Nat} {S : gk_S} {a : Nat} {p0 : Int32} {r : (Int32 × gk_S)} (h0 : f_X9_go F S a p0 = some r) : EvM X m_X9_go 1 0 0 [.ref a, .int p0] S (qRI r) := by
  unfold f_X9_go at h0
  refine ev_method (by decide +kernel) rfl rfl (Nat.le_of_ble_eq_true rfl) ?_
  show EvW X m_X9_go 1 0 0 0 [some (.ref a), some (.int p0)] [] S _
  refine ev_aload_n (pc := 0) (i := 0) rfl rfl rfl dX9_go_0 ?_
  refine ev_iload_n (pc := 1) (i := 1) rfl rfl dX9_go_1 ?_
  obtain ⟨g1, h2⟩ := qk_el h0; clear h0
  obtain ⟨S3, e4, h5⟩ := qv_el h2; clear h2
  refine yv_putI (pc := 2) fn_707 ⟨rfl, rfl⟩ (isb_el g1) e4 gw_127 dX9_go_2 ?_
  refine ev_iconst (pc := 5) (v := 0) (by decide) dX9_go_5 ?_
  exact ev_ireturn (pc := 6) rfl rfl (by cases h5; rfl) dX9_go_6
theorem dX11_actionWord_0 : decode cX11_actionWord 0 = .ok (.iload_n 0, 1) := by decide +kernel
theorem dX11_actionWord_1 : decode cX11_actionWord 1 = .ok (.lookupswitch 35 #[(0, 27), (1, 31)], 27) := by decide +kernel
theorem dX11_actionWord_28 : decode cX11_actionWord 28 = .ok (.ldc_w 286, 3) := by decide +kernel
theorem dX11_actionWord_31 : decode cX11_actionWord 31 = .ok (.areturn, 1) := by decide +kernel
theorem dX11_actionWord_32 : decode cX11_actionWord 32 = .ok (.ldc_w 288, 3) := by decide +kernel
theorem dX11_actionWord_35 : decode cX11_actionWord 35 = .ok (.areturn, 1) := by decide +kernel
theorem dX11_actionWord_36 : decode cX11_actionWord 36 = .ok (.ldc_w 290, 3) := by decide +kernel
theorem dX11_actionWord_39 : decode cX11_actionWord 39 = .ok (.areturn, 1) := by decide +kernel
def f_X11_actionWord (F : Nat) (S : gk_S) (p0 : Int32) : Option (Nat × gk_S) := if p0 = 0 then (some (2, S)) else if p0 = 1 then (some (3, S)) else some (4, S)
theorem e_X11_actionWord {X : gk_X} {F : Nat} {S : gk_S} {p0 : Int32} {r : (Nat × gk_S)} (h0 : f_X11_actionWord F S p0 = some r) : EvM X m_X11_actionWord 1 0 0 [.int p0] S (qRT r) := by
  unfold f_X11_actionWord at h0
  refine ev_method (by decide +kernel) rfl rfl (Nat.le_of_ble_eq_true rfl) ?_
  show EvW X m_X11_actionWord 1 0 0 0 [some (.int p0)] [] S _
  refine ev_iload_n (pc := 0) (i := 0) rfl rfl dX11_actionWord_0 ?_
  by_cases c1 : p0 = 0
  · refine ev_lookup (pc := 1) (off := 27) (tgt := 28) rfl (by rw [c1]; rfl) (by decide) dX11_actionWord_1 ?_
    replace h0 := qi_t h0 c1
    refine ev_ldcSW (pc := 28) (i := 2) (by decide) rfl rfl dX11_actionWord_28 ?_
    exact ev_areturn (pc := 31) rfl (by first | exact .inl ⟨_, rfl⟩ | exact .inr ⟨_, rfl⟩) rfl (by cases h0; rfl) dX11_actionWord_31
  replace h0 := qi_f h0 c1
  by_cases c2 : p0 = 1
  · refine ev_lookup (pc := 1) (off := 31) (tgt := 32) rfl (by rw [c2]; rfl) (by decide) dX11_actionWord_1 ?_
    replace h0 := qi_t h0 c2
    refine ev_ldcSW (pc := 32) (i := 3) (by decide) rfl rfl dX11_actionWord_32 ?_
    exact ev_areturn (pc := 35) rfl (by first | exact .inl ⟨_, rfl⟩ | exact .inr ⟨_, rfl⟩) rfl (by cases h0; rfl) dX11_actionWord_35
  replace h0 := qi_f h0 c2
  refine ev_lookup (pc := 1) (off := 35) (tgt := 36) rfl (lo_ne (ti_ne c1 rfl) (lo_ne (ti_ne c2 rfl) lo_nil)) (by decide) dX11_actionWord_1 ?_
  refine ev_ldcSW (pc := 36) (i := 4) (by decide) rfl rfl dX11_actionWord_36 ?_
  exact ev_areturn (pc := 39) rfl (by first | exact .inl ⟨_, rfl⟩ | exact .inr ⟨_, rfl⟩) rfl (by cases h0; rfl) dX11_actionWord_39
theorem dX9_actionHere_0 : decode cX9_actionHere 0 = .ok (.iconst 0, 1) := by decide +kernel
theorem dX9_actionHere_1 : decode cX9_actionHere 1 = .ok (.istore_n 1, 1) := by decide +kernel
theorem dX9_actionHere_2 : decode cX9_actionHere 2 = .ok (.iload_n 1, 1) := by decide +kernel
theorem dX9_actionHere_3 : decode cX9_actionHere 3 = .ok (.iconst 3, 1) := by decide +kernel
theorem dX9_actionHere_4 : decode cX9_actionHere 4 = .ok (.if_icmp .ge 22, 3) := by decide +kernel
theorem dX9_actionHere_7 : decode cX9_actionHere 7 = .ok (.aload_n 0, 1) := by decide +kernel
theorem dX9_actionHere_8 : decode cX9_actionHere 8 = .ok (.iload_n 1, 1) := by decide +kernel
theorem dX9_actionHere_9 : decode cX9_actionHere 9 = .ok (.invokestatic 151, 3) := by decide +kernel
theorem dX9_actionHere_12 : decode cX9_actionHere 12 = .ok (.invokevirtual 61, 3) := by decide +kernel
theorem dX9_actionHere_15 : decode cX9_actionHere 15 = .ok (.ifCond .eq 5, 3) := by decide +kernel
theorem dX9_actionHere_18 : decode cX9_actionHere 18 = .ok (.iload_n 1, 1) := by decide +kernel
theorem dX9_actionHere_19 : decode cX9_actionHere 19 = .ok (.ireturn, 1) := by decide +kernel
theorem dX9_actionHere_20 : decode cX9_actionHere 20 = .ok (.iinc 1 1, 3) := by decide +kernel
theorem dX9_actionHere_23 : decode cX9_actionHere 23 = .ok (.goto (-21), 3) := by decide +kernel
theorem dX9_actionHere_26 : decode cX9_actionHere 26 = .ok (.iconst (-1), 1) := by decide +kernel
theorem dX9_actionHere_27 : decode cX9_actionHere 27 = .ok (.ireturn, 1) := by decide +kernel
def f_X9_actionHere_2 (F : Nat) : Nat → Nat → Int32 → gk_S → Option (Int32 × gk_S)
  | 0, _, _, _ => none
  | n + 1, l0, l1, S => if (3 : Int32) ≤ l1 then (some ((-1), S)) else qc (f_X11_actionWord F S l1) fun x3 S4 => qk (isb S4 l0 7) <| qc (f_X9_isWord F S4 l0 x3) fun x9 S10 => if x9 = (0 : Int32) then (f_X9_actionHere_2 F n l0 (l1 + 1) S10) else some (l1, S10)
theorem e_X9_actionHere_2 {X : gk_X} {F : Nat} : ∀ (n : Nat) (l0 : Nat) (l1 : Int32) (S : gk_S) (r : (Int32 × gk_S)), f_X9_actionHere_2 F n l0 l1 S = some r → EvW X m_X9_actionHere 6 0 0 2 [some (.ref l0), some (.int l1)] [] S (qRI r) := by
  intro n
  induction n with
  | zero => intro l0 l1 S r h0; rw [f_X9_actionHere_2] at h0; cases h0
  | succ n ih =>
    intro l0 l1 S r h0; rw [f_X9_actionHere_2] at h0
    refine ev_iload_n (pc := 2) (i := 1) rfl rfl dX9_actionHere_2 ?_
    refine ev_iconst (pc := 3) (v := 3) (by decide) dX9_actionHere_3 ?_
    refine ev_ic_ge (pc := 4) (tgt := 26) (by decide) dX9_actionHere_4 (fun c1 => ?_) (fun c1 => ?_)
    · replace h0 := qi_t h0 c1
      refine ev_iconst (pc := 26) (v := -1) (by decide) dX9_actionHere_26 ?_
      exact ev_ireturn (pc := 27) rfl rfl (by cases h0; rfl) dX9_actionHere_27
    · replace h0 := qi_f h0 c1
      refine ev_aload_n (pc := 7) (i := 0) rfl rfl rfl dX9_actionHere_7 ?_
      refine ev_iload_n (pc := 8) (i := 1) rfl rfl dX9_actionHere_8 ?_
      obtain ⟨x3, S4, e5, h6⟩ := qc_el h0; clear h0
      refine xv_callSN (pc := 9) (st := [.ref l0]) (as := [.int l1]) (v := (some (.retAddr (10 + x3)))) (S' := S4) (host := "GateHouse") ok_X11_actionWord (e_X11_actionWord e5) (by decide) rfl (Nat.le_of_ble_eq_true rfl) rfl (by decide +kernel) dX9_actionHere_9 ?_
      obtain ⟨g7, h8⟩ := qk_el h6; clear h6
      obtain ⟨x9, S10, e11, h12⟩ := qc_el h8; clear h8
      refine xv_callV (pc := 12) (st := []) (as := [.retAddr (10 + x3)]) (v := (some (.int x9))) (S' := S10) ok_X9_isWord (e_X9_isWord e11) (isb_el g7) (by decide) rfl (Nat.le_of_ble_eq_true rfl) rfl gw_503 dX9_actionHere_12 ?_
      refine ev_if_eq (pc := 15) (tgt := 20) (by decide) dX9_actionHere_15 (fun c13 => ?_) (fun c13 => ?_)
      · replace h12 := qi_t h12 c13
        refine ev_iinc (pc := 20) (L' := [some (.ref l0), some (.int (l1 + 1))]) (i := 1) (v := (l1 + 1)) rfl rfl (by decide) rfl rfl dX9_actionHere_20 ?_
        refine ev_goto (pc := 23) (tgt := 2) (by decide) dX9_actionHere_23 ?_
        exact (ev_weak (qL_s (qL_s qL_nil)) (ih _ _ _ _ h12))
      · replace h12 := qi_f h12 c13
        refine ev_iload_n (pc := 18) (i := 1) rfl rfl dX9_actionHere_18 ?_
        exact ev_ireturn (pc := 19) rfl rfl (by cases h12; rfl) dX9_actionHere_19
def f_X9_actionHere (F : Nat) (S : gk_S) (a : Nat) : Option (Int32 × gk_S) := f_X9_actionHere_2 F F a 0 S
theorem e_X9_actionHere {X : gk_X} {F : Nat} {S : gk_S} {a : Nat} {r : (Int32 × gk_S)} (h0 : f_X9_actionHere F S a = some r) : EvM X m_X9_actionHere 6 0 0 [.ref a] S (qRI r) := by
  unfold f_X9_actionHere at h0
  refine ev_method (by decide +kernel) rfl rfl (Nat.le_of_ble_eq_true rfl) ?_
  show EvW X m_X9_actionHere 6 0 0 0 [some (.ref a), none] [] S _
  refine ev_iconst (pc := 0) (v := 0) (by decide) dX9_actionHere_0 ?_
  refine ev_istore_n (pc := 1) (L' := [some (.ref a), some (.int 0)]) (i := 1) rfl (by decide) rfl rfl dX9_actionHere_1 ?_
  exact ev_weak (qL_s (qL_s qL_nil)) (e_X9_actionHere_2 F _ _ _ _ h0)
