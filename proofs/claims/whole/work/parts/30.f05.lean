theorem dX9_readRun_0 : decode cX9_readRun 0 = .ok (.iconst 0, 1) := by decide +kernel
theorem dX9_readRun_1 : decode cX9_readRun 1 = .ok (.istore_n 1, 1) := by decide +kernel
theorem dX9_readRun_2 : decode cX9_readRun 2 = .ok (.aload_n 0, 1) := by decide +kernel
theorem dX9_readRun_3 : decode cX9_readRun 3 = .ok (.getfield 28, 3) := by decide +kernel
theorem dX9_readRun_6 : decode cX9_readRun 6 = .ok (.aload_n 0, 1) := by decide +kernel
theorem dX9_readRun_7 : decode cX9_readRun 7 = .ok (.getfield 9, 3) := by decide +kernel
theorem dX9_readRun_10 : decode cX9_readRun 10 = .ok (.getfield 174, 3) := by decide +kernel
theorem dX9_readRun_13 : decode cX9_readRun 13 = .ok (.if_icmp .ge 58, 3) := by decide +kernel
theorem dX9_readRun_16 : decode cX9_readRun 16 = .ok (.aload_n 0, 1) := by decide +kernel
theorem dX9_readRun_17 : decode cX9_readRun 17 = .ok (.getfield 9, 3) := by decide +kernel
theorem dX9_readRun_20 : decode cX9_readRun 20 = .ok (.aload_n 0, 1) := by decide +kernel
theorem dX9_readRun_21 : decode cX9_readRun 21 = .ok (.getfield 28, 3) := by decide +kernel
theorem dX9_readRun_24 : decode cX9_readRun 24 = .ok (.invokevirtual 166, 3) := by decide +kernel
theorem dX9_readRun_27 : decode cX9_readRun 27 = .ok (.invokestatic 175, 3) := by decide +kernel
theorem dX9_readRun_30 : decode cX9_readRun 30 = .ok (.ifCond .eq 41, 3) := by decide +kernel
theorem dX9_readRun_33 : decode cX9_readRun 33 = .ok (.iload_n 1, 1) := by decide +kernel
theorem dX9_readRun_34 : decode cX9_readRun 34 = .ok (.aload_n 0, 1) := by decide +kernel
theorem dX9_readRun_35 : decode cX9_readRun 35 = .ok (.getfield 9, 3) := by decide +kernel
theorem dX9_readRun_38 : decode cX9_readRun 38 = .ok (.aload_n 0, 1) := by decide +kernel
theorem dX9_readRun_39 : decode cX9_readRun 39 = .ok (.getfield 28, 3) := by decide +kernel
theorem dX9_readRun_42 : decode cX9_readRun 42 = .ok (.invokevirtual 166, 3) := by decide +kernel
theorem dX9_readRun_45 : decode cX9_readRun 45 = .ok (.invokestatic 185, 3) := by decide +kernel
theorem dX9_readRun_48 : decode cX9_readRun 48 = .ok (.ifCond .eq 7, 3) := by decide +kernel
theorem dX9_readRun_51 : decode cX9_readRun 51 = .ok (.iconst 0, 1) := by decide +kernel
theorem dX9_readRun_52 : decode cX9_readRun 52 = .ok (.goto 4, 3) := by decide +kernel
theorem dX9_readRun_55 : decode cX9_readRun 55 = .ok (.iconst 1, 1) := by decide +kernel
theorem dX9_readRun_56 : decode cX9_readRun 56 = .ok (.iadd, 1) := by decide +kernel
theorem dX9_readRun_57 : decode cX9_readRun 57 = .ok (.istore_n 1, 1) := by decide +kernel
theorem dX9_readRun_58 : decode cX9_readRun 58 = .ok (.aload_n 0, 1) := by decide +kernel
theorem dX9_readRun_59 : decode cX9_readRun 59 = .ok (.dup, 1) := by decide +kernel
theorem dX9_readRun_60 : decode cX9_readRun 60 = .ok (.getfield 28, 3) := by decide +kernel
theorem dX9_readRun_63 : decode cX9_readRun 63 = .ok (.iconst 1, 1) := by decide +kernel
theorem dX9_readRun_64 : decode cX9_readRun 64 = .ok (.iadd, 1) := by decide +kernel
theorem dX9_readRun_65 : decode cX9_readRun 65 = .ok (.putfield 28, 3) := by decide +kernel
theorem dX9_readRun_68 : decode cX9_readRun 68 = .ok (.goto (-66), 3) := by decide +kernel
theorem dX9_readRun_71 : decode cX9_readRun 71 = .ok (.aload_n 0, 1) := by decide +kernel
theorem dX9_readRun_72 : decode cX9_readRun 72 = .ok (.getfield 28, 3) := by decide +kernel
theorem dX9_readRun_75 : decode cX9_readRun 75 = .ok (.aload_n 0, 1) := by decide +kernel
theorem dX9_readRun_76 : decode cX9_readRun 76 = .ok (.getfield 25, 3) := by decide +kernel
theorem dX9_readRun_79 : decode cX9_readRun 79 = .ok (.isub, 1) := by decide +kernel
theorem dX9_readRun_80 : decode cX9_readRun 80 = .ok (.istore_n 2, 1) := by decide +kernel
theorem dX9_readRun_81 : decode cX9_readRun 81 = .ok (.iload_n 1, 1) := by decide +kernel
theorem dX9_readRun_82 : decode cX9_readRun 82 = .ok (.ifCond .ne 26, 3) := by decide +kernel
theorem dX9_readRun_85 : decode cX9_readRun 85 = .ok (.aload_n 0, 1) := by decide +kernel
theorem dX9_readRun_86 : decode cX9_readRun 86 = .ok (.getfield 9, 3) := by decide +kernel
theorem dX9_readRun_89 : decode cX9_readRun 89 = .ok (.aload_n 0, 1) := by decide +kernel
theorem dX9_readRun_90 : decode cX9_readRun 90 = .ok (.getfield 28, 3) := by decide +kernel
theorem dX9_readRun_93 : decode cX9_readRun 93 = .ok (.invokevirtual 166, 3) := by decide +kernel
theorem dX9_readRun_96 : decode cX9_readRun 96 = .ok (.bipush 46, 2) := by decide +kernel
theorem dX9_readRun_98 : decode cX9_readRun 98 = .ok (.if_icmp .ne 10, 3) := by decide +kernel
theorem dX9_readRun_101 : decode cX9_readRun 101 = .ok (.aload_n 0, 1) := by decide +kernel
theorem dX9_readRun_102 : decode cX9_readRun 102 = .ok (.invokevirtual 188, 3) := by decide +kernel
theorem dX9_readRun_105 : decode cX9_readRun 105 = .ok (.goto 78, 3) := by decide +kernel
theorem dX9_readRun_108 : decode cX9_readRun 108 = .ok (.iload_n 1, 1) := by decide +kernel
theorem dX9_readRun_109 : decode cX9_readRun 109 = .ok (.ifCond .ne 50, 3) := by decide +kernel
theorem dX9_readRun_112 : decode cX9_readRun 112 = .ok (.aload_n 0, 1) := by decide +kernel
theorem dX9_readRun_113 : decode cX9_readRun 113 = .ok (.iload_n 2, 1) := by decide +kernel
theorem dX9_readRun_114 : decode cX9_readRun 114 = .ok (.iconst 5, 1) := by decide +kernel
theorem dX9_readRun_115 : decode cX9_readRun 115 = .ok (.if_icmp .gt 9, 3) := by decide +kernel
theorem dX9_readRun_118 : decode cX9_readRun 118 = .ok (.sipush 258, 3) := by decide +kernel
theorem dX9_readRun_121 : decode cX9_readRun 121 = .ok (.goto 6, 3) := by decide +kernel
theorem dX9_readRun_124 : decode cX9_readRun 124 = .ok (.sipush 260, 3) := by decide +kernel
theorem dX9_readRun_127 : decode cX9_readRun 127 = .ok (.putfield 22, 3) := by decide +kernel
theorem dX9_readRun_130 : decode cX9_readRun 130 = .ok (.aload_n 0, 1) := by decide +kernel
theorem dX9_readRun_131 : decode cX9_readRun 131 = .ok (.iload_n 2, 1) := by decide +kernel
theorem dX9_readRun_132 : decode cX9_readRun 132 = .ok (.iconst 5, 1) := by decide +kernel
theorem dX9_readRun_133 : decode cX9_readRun 133 = .ok (.if_icmp .gt 19, 3) := by decide +kernel
theorem dX9_readRun_136 : decode cX9_readRun 136 = .ok (.aload_n 0, 1) := by decide +kernel
theorem dX9_readRun_137 : decode cX9_readRun 137 = .ok (.aload_n 0, 1) := by decide +kernel
theorem dX9_readRun_138 : decode cX9_readRun 138 = .ok (.getfield 25, 3) := by decide +kernel
theorem dX9_readRun_141 : decode cX9_readRun 141 = .ok (.aload_n 0, 1) := by decide +kernel
theorem dX9_readRun_142 : decode cX9_readRun 142 = .ok (.getfield 28, 3) := by decide +kernel
theorem dX9_readRun_145 : decode cX9_readRun 145 = .ok (.invokevirtual 191, 3) := by decide +kernel
theorem dX9_readRun_148 : decode cX9_readRun 148 = .ok (.i2l, 1) := by decide +kernel
theorem dX9_readRun_149 : decode cX9_readRun 149 = .ok (.goto 4, 3) := by decide +kernel
theorem dX9_readRun_152 : decode cX9_readRun 152 = .ok (.lconst 0, 1) := by decide +kernel
theorem dX9_readRun_153 : decode cX9_readRun 153 = .ok (.putfield 31, 3) := by decide +kernel
theorem dX9_readRun_156 : decode cX9_readRun 156 = .ok (.goto 27, 3) := by decide +kernel
theorem dX9_readRun_159 : decode cX9_readRun 159 = .ok (.aload_n 0, 1) := by decide +kernel
theorem dX9_readRun_160 : decode cX9_readRun 160 = .ok (.iload_n 1, 1) := by decide +kernel
theorem dX9_readRun_161 : decode cX9_readRun 161 = .ok (.iload_n 2, 1) := by decide +kernel
theorem dX9_readRun_162 : decode cX9_readRun 162 = .ok (.if_icmp .ne 15, 3) := by decide +kernel
theorem dX9_readRun_165 : decode cX9_readRun 165 = .ok (.iload_n 2, 1) := by decide +kernel
theorem dX9_readRun_166 : decode cX9_readRun 166 = .ok (.bipush 11, 2) := by decide +kernel
theorem dX9_readRun_168 : decode cX9_readRun 168 = .ok (.if_icmp .gt 9, 3) := by decide +kernel
theorem dX9_readRun_171 : decode cX9_readRun 171 = .ok (.sipush 257, 3) := by decide +kernel
theorem dX9_readRun_174 : decode cX9_readRun 174 = .ok (.goto 6, 3) := by decide +kernel
theorem dX9_readRun_177 : decode cX9_readRun 177 = .ok (.sipush 260, 3) := by decide +kernel
theorem dX9_readRun_180 : decode cX9_readRun 180 = .ok (.putfield 22, 3) := by decide +kernel
theorem dX9_readRun_183 : decode cX9_readRun 183 = .ok (.return_, 1) := by decide +kernel
theorem e_X9_readRun_127 {X : gk_X} {F : Nat} {l0 : Nat} {l2 : Int32} {s0 : Int32} {s1 : Nat} {S : gk_S} {r : (Unit × gk_S)} (h0 : f_X9_readRun_127 F l0 l2 s0 s1 S = some r) : EvW X m_X9_readRun 5 0 0 127 [some (.ref l0), none, some (.int l2)] [.int s0, .ref s1] S (qRU r) := by
  unfold f_X9_readRun_127 at h0
  obtain ⟨g49, h50⟩ := qk_el h0; clear h0
  obtain ⟨S51, e52, h53⟩ := qv_el h50; clear h50
  refine yv_putI (pc := 127) fn_703 ⟨rfl, rfl⟩ (isb_el g49) e52 gw_123 dX9_readRun_127 ?_
  refine ev_aload_n (pc := 130) (i := 0) rfl rfl rfl dX9_readRun_130 ?_
  refine ev_iload_n (pc := 131) (i := 2) rfl rfl dX9_readRun_131 ?_
  refine ev_iconst (pc := 132) (v := 5) (by decide) dX9_readRun_132 ?_
  refine ev_ic_gt (pc := 133) (tgt := 152) (by decide) dX9_readRun_133 (fun c54 => ?_) (fun c54 => ?_)
  · replace h53 := qi_t h53 c54
    refine ev_lconst (pc := 152) (v := 0) (by decide) dX9_readRun_152 ?_
    obtain ⟨g56, h57⟩ := qk_el h53; clear h53
    obtain ⟨S58, e59, h60⟩ := qv_el h57; clear h57
    refine yv_putJ (pc := 153) fn_706 (isb_el g56) e59 gw_126 dX9_readRun_153 ?_
    refine ev_goto (pc := 156) (tgt := 183) (by decide) dX9_readRun_156 ?_
    exact ev_return (pc := 183) rfl (qRU_eq h60) dX9_readRun_183
  · replace h53 := qi_f h53 c54
    refine ev_aload_n (pc := 136) (i := 0) rfl rfl rfl dX9_readRun_136 ?_
    refine ev_aload_n (pc := 137) (i := 0) rfl rfl rfl dX9_readRun_137 ?_
    obtain ⟨g61, h62⟩ := qk_el h53; clear h53
    obtain ⟨x63, e64, h65⟩ := qv_el h62; clear h62
    refine xv_getIv (pc := 138) fn_704 (isb_el g61) e64 gw_124 dX9_readRun_138 ?_
    refine ev_aload_n (pc := 141) (i := 0) rfl rfl rfl dX9_readRun_141 ?_
    obtain ⟨x66, e67, h68⟩ := qv_el h65; clear h65
    refine xv_getIv (pc := 142) fn_705 (isb_el g61) e67 gw_125 dX9_readRun_142 ?_
    obtain ⟨x69, S70, e71, h72⟩ := qc_el h68; clear h68
    refine xv_callV (pc := 145) (st := [.ref l0]) (as := [.int x63, .int x66]) (v := (some (.int x69))) (S' := S70) ok_X9_numberBetween (e_X9_numberBetween e71) (isb_el g61) (by decide) rfl (Nat.le_of_ble_eq_true rfl) rfl gw_490 dX9_readRun_145 ?_
    refine ev_i2l (pc := 148)  dX9_readRun_148 ?_
    refine ev_goto (pc := 149) (tgt := 153) (by decide) dX9_readRun_149 ?_
    obtain ⟨g73, h74⟩ := qk_el h72; clear h72
    obtain ⟨S75, e76, h77⟩ := qv_el h74; clear h74
    refine yv_putJ (pc := 153) fn_706 (isb_el g73) e76 gw_126 dX9_readRun_153 ?_
    refine ev_goto (pc := 156) (tgt := 183) (by decide) dX9_readRun_156 ?_
    exact ev_return (pc := 183) rfl (qRU_eq h77) dX9_readRun_183
theorem e_X9_readRun_108 {X : gk_X} {F : Nat} {l0 : Nat} {l1 : Int32} {l2 : Int32} {S : gk_S} {r : (Unit × gk_S)} (h0 : f_X9_readRun_108 F l0 l1 l2 S = some r) : EvW X m_X9_readRun 5 0 0 108 [some (.ref l0), some (.int l1), some (.int l2)] [] S (qRU r) := by
  unfold f_X9_readRun_108 at h0
  refine ev_iload_n (pc := 108) (i := 1) rfl rfl dX9_readRun_108 ?_
  refine ev_if_ne (pc := 109) (tgt := 159) (by decide) dX9_readRun_109 (fun c26 => ?_) (fun c26 => ?_)
  · replace h0 := qi_f h0 c26
    refine ev_aload_n (pc := 159) (i := 0) rfl rfl rfl dX9_readRun_159 ?_
    refine ev_iload_n (pc := 160) (i := 1) rfl rfl dX9_readRun_160 ?_
    refine ev_iload_n (pc := 161) (i := 2) rfl rfl dX9_readRun_161 ?_
    refine ev_ic_ne (pc := 162) (tgt := 177) (by decide) dX9_readRun_162 (fun c28 => ?_) (fun c28 => ?_)
    · replace h0 := qi_f h0 c28
      refine ev_sipush (pc := 177) (v := 260) (by decide) dX9_readRun_177 ?_
      obtain ⟨g30, h31⟩ := qk_el h0; clear h0
      obtain ⟨S32, e33, h34⟩ := qv_el h31; clear h31
      refine yv_putI (pc := 180) fn_703 ⟨rfl, rfl⟩ (isb_el g30) e33 gw_123 dX9_readRun_180 ?_
      exact ev_return (pc := 183) rfl (qRU_eq h34) dX9_readRun_183
    · replace h0 := qi_t h0 c28
      refine ev_iload_n (pc := 165) (i := 2) rfl rfl dX9_readRun_165 ?_
      refine ev_bipush (pc := 166) (v := 11) (by decide) dX9_readRun_166 ?_
      refine ev_ic_gt (pc := 168) (tgt := 177) (by decide) dX9_readRun_168 (fun c35 => ?_) (fun c35 => ?_)
      · replace h0 := qi_t h0 c35
        refine ev_sipush (pc := 177) (v := 260) (by decide) dX9_readRun_177 ?_
        obtain ⟨g37, h38⟩ := qk_el h0; clear h0
        obtain ⟨S39, e40, h41⟩ := qv_el h38; clear h38
        refine yv_putI (pc := 180) fn_703 ⟨rfl, rfl⟩ (isb_el g37) e40 gw_123 dX9_readRun_180 ?_
        exact ev_return (pc := 183) rfl (qRU_eq h41) dX9_readRun_183
      · replace h0 := qi_f h0 c35
        refine ev_sipush (pc := 171) (v := 257) (by decide) dX9_readRun_171 ?_
        refine ev_goto (pc := 174) (tgt := 180) (by decide) dX9_readRun_174 ?_
        obtain ⟨g42, h43⟩ := qk_el h0; clear h0
        obtain ⟨S44, e45, h46⟩ := qv_el h43; clear h43
        refine yv_putI (pc := 180) fn_703 ⟨rfl, rfl⟩ (isb_el g42) e45 gw_123 dX9_readRun_180 ?_
        exact ev_return (pc := 183) rfl (qRU_eq h46) dX9_readRun_183
  · replace h0 := qi_t h0 c26
    refine ev_aload_n (pc := 112) (i := 0) rfl rfl rfl dX9_readRun_112 ?_
    refine ev_iload_n (pc := 113) (i := 2) rfl rfl dX9_readRun_113 ?_
    refine ev_iconst (pc := 114) (v := 5) (by decide) dX9_readRun_114 ?_
    refine ev_ic_gt (pc := 115) (tgt := 124) (by decide) dX9_readRun_115 (fun c47 => ?_) (fun c47 => ?_)
    · replace h0 := qi_t h0 c47
      refine ev_sipush (pc := 124) (v := 260) (by decide) dX9_readRun_124 ?_
      exact ev_weak (qL_s (qL_n (qL_s qL_nil))) (e_X9_readRun_127 h0)
    · replace h0 := qi_f h0 c47
      refine ev_sipush (pc := 118) (v := 258) (by decide) dX9_readRun_118 ?_
      refine ev_goto (pc := 121) (tgt := 127) (by decide) dX9_readRun_121 ?_
      exact ev_weak (qL_s (qL_n (qL_s qL_nil))) (e_X9_readRun_127 h0)
theorem e_X9_readRun_71 {X : gk_X} {F : Nat} {l0 : Nat} {l1 : Int32} {S : gk_S} {r : (Unit × gk_S)} (h0 : f_X9_readRun_71 F l0 l1 S = some r) : EvW X m_X9_readRun 5 0 0 71 [some (.ref l0), some (.int l1), none] [] S (qRU r) := by
  unfold f_X9_readRun_71 at h0
  refine ev_aload_n (pc := 71) (i := 0) rfl rfl rfl dX9_readRun_71 ?_
  obtain ⟨g16, h17⟩ := qk_el h0; clear h0
  obtain ⟨x18, e19, h20⟩ := qv_el h17; clear h17
  refine xv_getIv (pc := 72) fn_705 (isb_el g16) e19 gw_125 dX9_readRun_72 ?_
  refine ev_aload_n (pc := 75) (i := 0) rfl rfl rfl dX9_readRun_75 ?_
  obtain ⟨x21, e22, h23⟩ := qv_el h20; clear h20
  refine xv_getIv (pc := 76) fn_704 (isb_el g16) e22 gw_124 dX9_readRun_76 ?_
  refine ev_isub (pc := 79)  dX9_readRun_79 ?_
  refine ev_istore_n (pc := 80) (L' := [some (.ref l0), some (.int l1), some (.int (x18 - x21))]) (i := 2) rfl (by decide) rfl rfl dX9_readRun_80 ?_
  refine ev_iload_n (pc := 81) (i := 1) rfl rfl dX9_readRun_81 ?_
  refine ev_if_ne (pc := 82) (tgt := 108) (by decide) dX9_readRun_82 (fun c24 => ?_) (fun c24 => ?_)
  · replace h23 := qi_f h23 c24
    exact ev_weak (qL_s (qL_s (qL_s qL_nil))) (e_X9_readRun_108 h23)
  · replace h23 := qi_t h23 c24
    refine ev_aload_n (pc := 85) (i := 0) rfl rfl rfl dX9_readRun_85 ?_
    obtain ⟨b78, e79, h80⟩ := qP_el h23; clear h23
    refine xv_getP (pc := 86) fn_700 (isb_el g16) e79 gw_118 dX9_readRun_86 ?_
    refine ev_aload_n (pc := 89) (i := 0) rfl rfl rfl dX9_readRun_89 ?_
    obtain ⟨x81, e82, h83⟩ := qv_el h80; clear h80
    refine xv_getIv (pc := 90) fn_705 (isb_el g16) e82 gw_125 dX9_readRun_90 ?_
    obtain ⟨g84, h85⟩ := qk_el h83; clear h83
    obtain ⟨x86, S87, e88, h89⟩ := qc_el h85; clear h85
    refine xv_callV (pc := 93) (st := []) (as := [.int x81]) (v := (some (.int x86))) (S' := S87) ok_X2_at (e_X2_at e88) (isb_el g84) (by decide) rfl (Nat.le_of_ble_eq_true rfl) rfl gw_468 dX9_readRun_93 ?_
    refine ev_bipush (pc := 96) (v := 46) (by decide) dX9_readRun_96 ?_
    refine ev_ic_ne (pc := 98) (tgt := 108) (by decide) dX9_readRun_98 (fun c90 => ?_) (fun c90 => ?_)
    · replace h89 := qi_f h89 c90
      exact ev_weak (qL_s (qL_s (qL_s qL_nil))) (e_X9_readRun_108 h89)
    · replace h89 := qi_t h89 c90
      refine ev_aload_n (pc := 101) (i := 0) rfl rfl rfl dX9_readRun_101 ?_
      obtain ⟨g92, h93⟩ := qk_el h89; clear h89
      obtain ⟨x94, S95, e96, h97⟩ := qc_el h93; clear h93
      refine xv_callV (pc := 102) (st := []) (as := []) (v := none) (S' := S95) ok_X9_readAddress (e_X9_readAddress e96) (isb_el g92) (by decide) rfl (Nat.le_of_ble_eq_true rfl) rfl gw_482 dX9_readRun_102 ?_
      refine ev_goto (pc := 105) (tgt := 183) (by decide) dX9_readRun_105 ?_
      exact ev_return (pc := 183) rfl (qRU_eq h97) dX9_readRun_183
theorem e_X9_readRun_56 {X : gk_X} {F : Nat} {k2 : Nat → Int32 → gk_S → Option (Unit × gk_S)} (hk2 : ∀ (l0 : Nat) (l1 : Int32) (S : gk_S) (r : (Unit × gk_S)), k2 l0 l1 S = some r → EvW X m_X9_readRun 5 0 0 2 [some (.ref l0), some (.int l1), none] [] S (qRU r)) {l0 : Nat} {s0 : Int32} {s1 : Int32} {S : gk_S} {r : (Unit × gk_S)} (h0 : f_X9_readRun_56 F k2 l0 s0 s1 S = some r) : EvW X m_X9_readRun 5 0 0 56 [some (.ref l0), none, none] [.int s0, .int s1] S (qRU r) := by
  unfold f_X9_readRun_56 at h0
  refine ev_iadd (pc := 56)  dX9_readRun_56 ?_
  refine ev_istore_n (pc := 57) (L' := [some (.ref l0), some (.int (s1 + s0)), none]) (i := 1) rfl (by decide) rfl rfl dX9_readRun_57 ?_
  refine ev_aload_n (pc := 58) (i := 0) rfl rfl rfl dX9_readRun_58 ?_
  refine ev_dup (pc := 59) (.inr rfl) dX9_readRun_59 ?_
  obtain ⟨g136, h137⟩ := qk_el h0; clear h0
  obtain ⟨x138, e139, h140⟩ := qv_el h137; clear h137
  refine xv_getIv (pc := 60) fn_705 (isb_el g136) e139 gw_125 dX9_readRun_60 ?_
  refine ev_iconst (pc := 63) (v := 1) (by decide) dX9_readRun_63 ?_
  refine ev_iadd (pc := 64)  dX9_readRun_64 ?_
  obtain ⟨S141, e142, h143⟩ := qv_el h140; clear h140
  refine yv_putI (pc := 65) fn_705 ⟨rfl, rfl⟩ (isb_el g136) e142 gw_125 dX9_readRun_65 ?_
  refine ev_goto (pc := 68) (tgt := 2) (by decide) dX9_readRun_68 ?_
  exact ev_weak (qL_s (qL_s (qL_n qL_nil))) (hk2 _ _ _ _ h143)
theorem e_X9_readRun_2 {X : gk_X} {F : Nat} : ∀ (n : Nat) (l0 : Nat) (l1 : Int32) (S : gk_S) (r : (Unit × gk_S)), f_X9_readRun_2 F n l0 l1 S = some r → EvW X m_X9_readRun 5 0 0 2 [some (.ref l0), some (.int l1), none] [] S (qRU r) := by
  intro n
  induction n with
  | zero => intro l0 l1 S r h0; rw [f_X9_readRun_2] at h0; cases h0
  | succ n ih =>
    intro l0 l1 S r h0; rw [f_X9_readRun_2] at h0
    refine ev_aload_n (pc := 2) (i := 0) rfl rfl rfl dX9_readRun_2 ?_
    obtain ⟨g1, h2⟩ := qk_el h0; clear h0
    obtain ⟨x3, e4, h5⟩ := qv_el h2; clear h2
    refine xv_getIv (pc := 3) fn_705 (isb_el g1) e4 gw_125 dX9_readRun_3 ?_
    refine ev_aload_n (pc := 6) (i := 0) rfl rfl rfl dX9_readRun_6 ?_
    obtain ⟨b6, e7, h8⟩ := qP_el h5; clear h5
    refine xv_getP (pc := 7) fn_700 (isb_el g1) e7 gw_118 dX9_readRun_7 ?_
    obtain ⟨g9, h10⟩ := qk_el h8; clear h8
    obtain ⟨x11, e12, h13⟩ := qv_el h10; clear h10
    refine xv_getIv (pc := 10) fn_101 (isb_el g9) e12 gw_43 dX9_readRun_10 ?_
    refine ev_ic_ge (pc := 13) (tgt := 71) (by decide) dX9_readRun_13 (fun c14 => ?_) (fun c14 => ?_)
    · replace h13 := qi_t h13 c14
      exact ev_weak (qL_s (qL_s (qL_n qL_nil))) (e_X9_readRun_71 h13)
    · replace h13 := qi_f h13 c14
      refine ev_aload_n (pc := 16) (i := 0) rfl rfl rfl dX9_readRun_16 ?_
      obtain ⟨b98, e99, h100⟩ := qP_el h13; clear h13
      refine xv_getP (pc := 17) fn_700 (isb_el g1) e99 gw_118 dX9_readRun_17 ?_
      refine ev_aload_n (pc := 20) (i := 0) rfl rfl rfl dX9_readRun_20 ?_
      obtain ⟨x101, e102, h103⟩ := qv_el h100; clear h100
      refine xv_getIv (pc := 21) fn_705 (isb_el g1) e102 gw_125 dX9_readRun_21 ?_
      obtain ⟨g104, h105⟩ := qk_el h103; clear h103
      obtain ⟨x106, S107, e108, h109⟩ := qc_el h105; clear h105
      refine xv_callV (pc := 24) (st := []) (as := [.int x101]) (v := (some (.int x106))) (S' := S107) ok_X2_at (e_X2_at e108) (isb_el g104) (by decide) rfl (Nat.le_of_ble_eq_true rfl) rfl gw_468 dX9_readRun_24 ?_
      obtain ⟨x110, S111, e112, h113⟩ := qc_el h109; clear h109
      refine xv_callS (pc := 27) (st := []) (as := [.int x106]) (v := (some (.int x110))) (S' := S111) ok_X9_isLetterOrDigit (e_X9_isLetterOrDigit e112) (by decide) rfl (Nat.le_of_ble_eq_true rfl) rfl gw_472 dX9_readRun_27 ?_
      refine ev_if_eq (pc := 30) (tgt := 71) (by decide) dX9_readRun_30 (fun c114 => ?_) (fun c114 => ?_)
      · replace h113 := qi_t h113 c114
        exact ev_weak (qL_s (qL_s (qL_n qL_nil))) (e_X9_readRun_71 h113)
      · replace h113 := qi_f h113 c114
        refine ev_iload_n (pc := 33) (i := 1) rfl rfl dX9_readRun_33 ?_
        refine ev_aload_n (pc := 34) (i := 0) rfl rfl rfl dX9_readRun_34 ?_
        obtain ⟨g116, h117⟩ := qk_el h113; clear h113
        obtain ⟨b118, e119, h120⟩ := qP_el h117; clear h117
        refine xv_getP (pc := 35) fn_700 (isb_el g116) e119 gw_118 dX9_readRun_35 ?_
        refine ev_aload_n (pc := 38) (i := 0) rfl rfl rfl dX9_readRun_38 ?_
        obtain ⟨x121, e122, h123⟩ := qv_el h120; clear h120
        refine xv_getIv (pc := 39) fn_705 (isb_el g116) e122 gw_125 dX9_readRun_39 ?_
        obtain ⟨g124, h125⟩ := qk_el h123; clear h123
        obtain ⟨x126, S127, e128, h129⟩ := qc_el h125; clear h125
        refine xv_callV (pc := 42) (st := [.int l1]) (as := [.int x121]) (v := (some (.int x126))) (S' := S127) ok_X2_at (e_X2_at e128) (isb_el g124) (by decide) rfl (Nat.le_of_ble_eq_true rfl) rfl gw_468 dX9_readRun_42 ?_
        obtain ⟨x130, S131, e132, h133⟩ := qc_el h129; clear h129
        refine xv_callS (pc := 45) (st := [.int l1]) (as := [.int x126]) (v := (some (.int x130))) (S' := S131) ok_X9_isDigit (e_X9_isDigit e132) (by decide) rfl (Nat.le_of_ble_eq_true rfl) rfl gw_475 dX9_readRun_45 ?_
        refine ev_if_eq (pc := 48) (tgt := 55) (by decide) dX9_readRun_48 (fun c134 => ?_) (fun c134 => ?_)
        · replace h133 := qi_t h133 c134
          refine ev_iconst (pc := 55) (v := 1) (by decide) dX9_readRun_55 ?_
          exact ev_weak (qL_s (qL_n (qL_n qL_nil))) (e_X9_readRun_56 ih h133)
        · replace h133 := qi_f h133 c134
          refine ev_iconst (pc := 51) (v := 0) (by decide) dX9_readRun_51 ?_
          refine ev_goto (pc := 52) (tgt := 56) (by decide) dX9_readRun_52 ?_
          exact ev_weak (qL_s (qL_n (qL_n qL_nil))) (e_X9_readRun_56 ih h133)
theorem e_X9_readRun {X : gk_X} {F : Nat} {S : gk_S} {a : Nat} {r : (Unit × gk_S)} (h0 : f_X9_readRun F S a = some r) : EvM X m_X9_readRun 5 0 0 [.ref a] S (qRU r) := by
  unfold f_X9_readRun at h0
  refine ev_method (by decide +kernel) rfl rfl (Nat.le_of_ble_eq_true rfl) ?_
  show EvW X m_X9_readRun 5 0 0 0 [some (.ref a), none, none] [] S _
  refine ev_iconst (pc := 0) (v := 0) (by decide) dX9_readRun_0 ?_
  refine ev_istore_n (pc := 1) (L' := [some (.ref a), some (.int 0), none]) (i := 1) rfl (by decide) rfl rfl dX9_readRun_1 ?_
  exact ev_weak (qL_s (qL_s (qL_n qL_nil))) (e_X9_readRun_2 F _ _ _ _ h0)
theorem dX9_isSign_0 : decode cX9_isSign 0 = .ok (.iload_n 0, 1) := by decide +kernel
theorem dX9_isSign_1 : decode cX9_isSign 1 = .ok (.bipush 59, 2) := by decide +kernel
theorem dX9_isSign_3 : decode cX9_isSign 3 = .ok (.if_icmp .eq 21, 3) := by decide +kernel
theorem dX9_isSign_6 : decode cX9_isSign 6 = .ok (.iload_n 0, 1) := by decide +kernel
theorem dX9_isSign_7 : decode cX9_isSign 7 = .ok (.bipush 44, 2) := by decide +kernel
theorem dX9_isSign_9 : decode cX9_isSign 9 = .ok (.if_icmp .eq 15, 3) := by decide +kernel
theorem dX9_isSign_12 : decode cX9_isSign 12 = .ok (.iload_n 0, 1) := by decide +kernel
theorem dX9_isSign_13 : decode cX9_isSign 13 = .ok (.bipush 45, 2) := by decide +kernel
theorem dX9_isSign_15 : decode cX9_isSign 15 = .ok (.if_icmp .eq 9, 3) := by decide +kernel
theorem dX9_isSign_18 : decode cX9_isSign 18 = .ok (.iload_n 0, 1) := by decide +kernel
theorem dX9_isSign_19 : decode cX9_isSign 19 = .ok (.bipush 47, 2) := by decide +kernel
theorem dX9_isSign_21 : decode cX9_isSign 21 = .ok (.if_icmp .ne 7, 3) := by decide +kernel
theorem dX9_isSign_24 : decode cX9_isSign 24 = .ok (.iconst 1, 1) := by decide +kernel
theorem dX9_isSign_25 : decode cX9_isSign 25 = .ok (.goto 4, 3) := by decide +kernel
theorem dX9_isSign_28 : decode cX9_isSign 28 = .ok (.iconst 0, 1) := by decide +kernel
theorem dX9_isSign_29 : decode cX9_isSign 29 = .ok (.ireturn, 1) := by decide +kernel
theorem e_X9_isSign {X : gk_X} {F : Nat} {S : gk_S} {p0 : Int32} {r : (Int32 × gk_S)} (h0 : f_X9_isSign F S p0 = some r) : EvM X m_X9_isSign 1 0 0 [.int p0] S (qRI r) := by
  unfold f_X9_isSign at h0
  refine ev_method (by decide +kernel) rfl rfl (Nat.le_of_ble_eq_true rfl) ?_
  show EvW X m_X9_isSign 1 0 0 0 [some (.int p0)] [] S _
  refine ev_iload_n (pc := 0) (i := 0) rfl rfl dX9_isSign_0 ?_
  refine ev_bipush (pc := 1) (v := 59) (by decide) dX9_isSign_1 ?_
  refine ev_ic_eq (pc := 3) (tgt := 24) (by decide) dX9_isSign_3 (fun c1 => ?_) (fun c1 => ?_)
  · replace h0 := qi_t h0 c1
    refine ev_iconst (pc := 24) (v := 1) (by decide) dX9_isSign_24 ?_
    refine ev_goto (pc := 25) (tgt := 29) (by decide) dX9_isSign_25 ?_
    exact ev_ireturn (pc := 29) rfl rfl (qRI_eq h0) dX9_isSign_29
  · replace h0 := qi_f h0 c1
    refine ev_iload_n (pc := 6) (i := 0) rfl rfl dX9_isSign_6 ?_
    refine ev_bipush (pc := 7) (v := 44) (by decide) dX9_isSign_7 ?_
    refine ev_ic_eq (pc := 9) (tgt := 24) (by decide) dX9_isSign_9 (fun c3 => ?_) (fun c3 => ?_)
    · replace h0 := qi_t h0 c3
      refine ev_iconst (pc := 24) (v := 1) (by decide) dX9_isSign_24 ?_
      refine ev_goto (pc := 25) (tgt := 29) (by decide) dX9_isSign_25 ?_
      exact ev_ireturn (pc := 29) rfl rfl (qRI_eq h0) dX9_isSign_29
    · replace h0 := qi_f h0 c3
      refine ev_iload_n (pc := 12) (i := 0) rfl rfl dX9_isSign_12 ?_
      refine ev_bipush (pc := 13) (v := 45) (by decide) dX9_isSign_13 ?_
      refine ev_ic_eq (pc := 15) (tgt := 24) (by decide) dX9_isSign_15 (fun c5 => ?_) (fun c5 => ?_)
      · replace h0 := qi_t h0 c5
        refine ev_iconst (pc := 24) (v := 1) (by decide) dX9_isSign_24 ?_
        refine ev_goto (pc := 25) (tgt := 29) (by decide) dX9_isSign_25 ?_
        exact ev_ireturn (pc := 29) rfl rfl (qRI_eq h0) dX9_isSign_29
      · replace h0 := qi_f h0 c5
        refine ev_iload_n (pc := 18) (i := 0) rfl rfl dX9_isSign_18 ?_
        refine ev_bipush (pc := 19) (v := 47) (by decide) dX9_isSign_19 ?_
        refine ev_ic_ne (pc := 21) (tgt := 28) (by decide) dX9_isSign_21 (fun c7 => ?_) (fun c7 => ?_)
        · replace h0 := qi_f h0 c7
          refine ev_iconst (pc := 28) (v := 0) (by decide) dX9_isSign_28 ?_
          exact ev_ireturn (pc := 29) rfl rfl (qRI_eq h0) dX9_isSign_29
        · replace h0 := qi_t h0 c7
          refine ev_iconst (pc := 24) (v := 1) (by decide) dX9_isSign_24 ?_
          refine ev_goto (pc := 25) (tgt := 29) (by decide) dX9_isSign_25 ?_
          exact ev_ireturn (pc := 29) rfl rfl (qRI_eq h0) dX9_isSign_29
theorem dX9_step_0 : decode cX9_step 0 = .ok (.aload_n 0, 1) := by decide +kernel
theorem dX9_step_1 : decode cX9_step 1 = .ok (.aload_n 0, 1) := by decide +kernel
theorem dX9_step_2 : decode cX9_step 2 = .ok (.getfield 28, 3) := by decide +kernel
theorem dX9_step_5 : decode cX9_step 5 = .ok (.putfield 25, 3) := by decide +kernel
theorem dX9_step_8 : decode cX9_step 8 = .ok (.aload_n 0, 1) := by decide +kernel
theorem dX9_step_9 : decode cX9_step 9 = .ok (.getfield 25, 3) := by decide +kernel
theorem dX9_step_12 : decode cX9_step 12 = .ok (.aload_n 0, 1) := by decide +kernel
theorem dX9_step_13 : decode cX9_step 13 = .ok (.getfield 9, 3) := by decide +kernel
theorem dX9_step_16 : decode cX9_step 16 = .ok (.getfield 174, 3) := by decide +kernel
theorem dX9_step_19 : decode cX9_step 19 = .ok (.if_icmp .ge 48, 3) := by decide +kernel
theorem dX9_step_22 : decode cX9_step 22 = .ok (.aload_n 0, 1) := by decide +kernel
theorem dX9_step_23 : decode cX9_step 23 = .ok (.getfield 9, 3) := by decide +kernel
theorem dX9_step_26 : decode cX9_step 26 = .ok (.aload_n 0, 1) := by decide +kernel
theorem dX9_step_27 : decode cX9_step 27 = .ok (.getfield 25, 3) := by decide +kernel
theorem dX9_step_30 : decode cX9_step 30 = .ok (.invokevirtual 166, 3) := by decide +kernel
theorem dX9_step_33 : decode cX9_step 33 = .ok (.bipush 10, 2) := by decide +kernel
theorem dX9_step_35 : decode cX9_step 35 = .ok (.if_icmp .eq 19, 3) := by decide +kernel
theorem dX9_step_38 : decode cX9_step 38 = .ok (.aload_n 0, 1) := by decide +kernel
theorem dX9_step_39 : decode cX9_step 39 = .ok (.getfield 9, 3) := by decide +kernel
theorem dX9_step_42 : decode cX9_step 42 = .ok (.aload_n 0, 1) := by decide +kernel
theorem dX9_step_43 : decode cX9_step 43 = .ok (.getfield 25, 3) := by decide +kernel
theorem dX9_step_46 : decode cX9_step 46 = .ok (.invokevirtual 166, 3) := by decide +kernel
theorem dX9_step_49 : decode cX9_step 49 = .ok (.bipush 32, 2) := by decide +kernel
theorem dX9_step_51 : decode cX9_step 51 = .ok (.if_icmp .ne 16, 3) := by decide +kernel
theorem dX9_step_54 : decode cX9_step 54 = .ok (.aload_n 0, 1) := by decide +kernel
theorem dX9_step_55 : decode cX9_step 55 = .ok (.dup, 1) := by decide +kernel
theorem dX9_step_56 : decode cX9_step 56 = .ok (.getfield 25, 3) := by decide +kernel
theorem dX9_step_59 : decode cX9_step 59 = .ok (.iconst 1, 1) := by decide +kernel
theorem dX9_step_60 : decode cX9_step 60 = .ok (.iadd, 1) := by decide +kernel
theorem dX9_step_61 : decode cX9_step 61 = .ok (.putfield 25, 3) := by decide +kernel
theorem dX9_step_64 : decode cX9_step 64 = .ok (.goto (-56), 3) := by decide +kernel
theorem dX9_step_67 : decode cX9_step 67 = .ok (.aload_n 0, 1) := by decide +kernel
theorem dX9_step_68 : decode cX9_step 68 = .ok (.aload_n 0, 1) := by decide +kernel
theorem dX9_step_69 : decode cX9_step 69 = .ok (.getfield 25, 3) := by decide +kernel
theorem dX9_step_72 : decode cX9_step 72 = .ok (.putfield 28, 3) := by decide +kernel
theorem dX9_step_75 : decode cX9_step 75 = .ok (.aload_n 0, 1) := by decide +kernel
theorem dX9_step_76 : decode cX9_step 76 = .ok (.lconst 0, 1) := by decide +kernel
theorem dX9_step_77 : decode cX9_step 77 = .ok (.putfield 31, 3) := by decide +kernel
theorem dX9_step_80 : decode cX9_step 80 = .ok (.aload_n 0, 1) := by decide +kernel
theorem dX9_step_81 : decode cX9_step 81 = .ok (.getfield 25, 3) := by decide +kernel
theorem dX9_step_84 : decode cX9_step 84 = .ok (.sipush 2000, 3) := by decide +kernel
theorem dX9_step_87 : decode cX9_step 87 = .ok (.if_icmp .lt 33, 3) := by decide +kernel
theorem dX9_step_90 : decode cX9_step 90 = .ok (.aload_n 0, 1) := by decide +kernel
theorem dX9_step_91 : decode cX9_step 91 = .ok (.getfield 9, 3) := by decide +kernel
theorem dX9_step_94 : decode cX9_step 94 = .ok (.getfield 174, 3) := by decide +kernel
theorem dX9_step_97 : decode cX9_step 97 = .ok (.sipush 2000, 3) := by decide +kernel
theorem dX9_step_100 : decode cX9_step 100 = .ok (.if_icmp .le 20, 3) := by decide +kernel
theorem dX9_step_103 : decode cX9_step 103 = .ok (.aload_n 0, 1) := by decide +kernel
theorem dX9_step_104 : decode cX9_step 104 = .ok (.sipush 261, 3) := by decide +kernel
theorem dX9_step_107 : decode cX9_step 107 = .ok (.putfield 22, 3) := by decide +kernel
theorem dX9_step_110 : decode cX9_step 110 = .ok (.aload_n 0, 1) := by decide +kernel
theorem dX9_step_111 : decode cX9_step 111 = .ok (.sipush 2000, 3) := by decide +kernel
theorem dX9_step_114 : decode cX9_step 114 = .ok (.putfield 25, 3) := by decide +kernel
theorem dX9_step_117 : decode cX9_step 117 = .ok (.goto 99, 3) := by decide +kernel
theorem dX9_step_120 : decode cX9_step 120 = .ok (.aload_n 0, 1) := by decide +kernel
theorem dX9_step_121 : decode cX9_step 121 = .ok (.getfield 25, 3) := by decide +kernel
theorem dX9_step_124 : decode cX9_step 124 = .ok (.aload_n 0, 1) := by decide +kernel
theorem dX9_step_125 : decode cX9_step 125 = .ok (.getfield 9, 3) := by decide +kernel
theorem dX9_step_128 : decode cX9_step 128 = .ok (.getfield 174, 3) := by decide +kernel
theorem dX9_step_131 : decode cX9_step 131 = .ok (.if_icmp .lt 13, 3) := by decide +kernel
theorem dX9_step_134 : decode cX9_step 134 = .ok (.aload_n 0, 1) := by decide +kernel
theorem dX9_step_135 : decode cX9_step 135 = .ok (.sipush 256, 3) := by decide +kernel
theorem dX9_step_138 : decode cX9_step 138 = .ok (.putfield 22, 3) := by decide +kernel
theorem dX9_step_141 : decode cX9_step 141 = .ok (.goto 75, 3) := by decide +kernel
theorem dX9_step_144 : decode cX9_step 144 = .ok (.aload_n 0, 1) := by decide +kernel
theorem dX9_step_145 : decode cX9_step 145 = .ok (.getfield 9, 3) := by decide +kernel
theorem dX9_step_148 : decode cX9_step 148 = .ok (.aload_n 0, 1) := by decide +kernel
theorem dX9_step_149 : decode cX9_step 149 = .ok (.getfield 25, 3) := by decide +kernel
theorem dX9_step_152 : decode cX9_step 152 = .ok (.invokevirtual 166, 3) := by decide +kernel
theorem dX9_step_155 : decode cX9_step 155 = .ok (.invokestatic 175, 3) := by decide +kernel
theorem dX9_step_158 : decode cX9_step 158 = .ok (.ifCond .eq 10, 3) := by decide +kernel
theorem dX9_step_161 : decode cX9_step 161 = .ok (.aload_n 0, 1) := by decide +kernel
theorem dX9_step_162 : decode cX9_step 162 = .ok (.invokevirtual 179, 3) := by decide +kernel
theorem dX9_step_165 : decode cX9_step 165 = .ok (.goto 51, 3) := by decide +kernel
theorem dX9_step_168 : decode cX9_step 168 = .ok (.aload_n 0, 1) := by decide +kernel
theorem dX9_step_169 : decode cX9_step 169 = .ok (.aload_n 0, 1) := by decide +kernel
theorem dX9_step_170 : decode cX9_step 170 = .ok (.getfield 9, 3) := by decide +kernel
theorem dX9_step_173 : decode cX9_step 173 = .ok (.aload_n 0, 1) := by decide +kernel
theorem dX9_step_174 : decode cX9_step 174 = .ok (.getfield 25, 3) := by decide +kernel
theorem dX9_step_177 : decode cX9_step 177 = .ok (.invokevirtual 166, 3) := by decide +kernel
theorem dX9_step_180 : decode cX9_step 180 = .ok (.invokestatic 182, 3) := by decide +kernel
theorem dX9_step_183 : decode cX9_step 183 = .ok (.ifCond .eq 17, 3) := by decide +kernel
theorem dX9_step_186 : decode cX9_step 186 = .ok (.aload_n 0, 1) := by decide +kernel
theorem dX9_step_187 : decode cX9_step 187 = .ok (.getfield 9, 3) := by decide +kernel
theorem dX9_step_190 : decode cX9_step 190 = .ok (.aload_n 0, 1) := by decide +kernel
theorem dX9_step_191 : decode cX9_step 191 = .ok (.getfield 25, 3) := by decide +kernel
theorem dX9_step_194 : decode cX9_step 194 = .ok (.invokevirtual 166, 3) := by decide +kernel
theorem dX9_step_197 : decode cX9_step 197 = .ok (.goto 6, 3) := by decide +kernel
theorem dX9_step_200 : decode cX9_step 200 = .ok (.sipush 260, 3) := by decide +kernel
theorem dX9_step_203 : decode cX9_step 203 = .ok (.putfield 22, 3) := by decide +kernel
theorem dX9_step_206 : decode cX9_step 206 = .ok (.aload_n 0, 1) := by decide +kernel
theorem dX9_step_207 : decode cX9_step 207 = .ok (.aload_n 0, 1) := by decide +kernel
theorem dX9_step_208 : decode cX9_step 208 = .ok (.getfield 25, 3) := by decide +kernel
theorem dX9_step_211 : decode cX9_step 211 = .ok (.iconst 1, 1) := by decide +kernel
theorem dX9_step_212 : decode cX9_step 212 = .ok (.iadd, 1) := by decide +kernel
theorem dX9_step_213 : decode cX9_step 213 = .ok (.putfield 28, 3) := by decide +kernel
theorem dX9_step_216 : decode cX9_step 216 = .ok (.return_, 1) := by decide +kernel
theorem e_X9_step_203 {X : gk_X} {F : Nat} {l0 : Nat} {s0 : Int32} {s1 : Nat} {S : gk_S} {r : (Unit × gk_S)} (h0 : f_X9_step_203 F l0 s0 s1 S = some r) : EvW X m_X9_step 6 0 0 203 [some (.ref l0)] [.int s0, .ref s1] S (qRU r) := by
  unfold f_X9_step_203 at h0
  obtain ⟨g93, h94⟩ := qk_el h0; clear h0
  obtain ⟨S95, e96, h97⟩ := qv_el h94; clear h94
  refine yv_putI (pc := 203) fn_703 ⟨rfl, rfl⟩ (isb_el g93) e96 gw_123 dX9_step_203 ?_
  refine ev_aload_n (pc := 206) (i := 0) rfl rfl rfl dX9_step_206 ?_
  refine ev_aload_n (pc := 207) (i := 0) rfl rfl rfl dX9_step_207 ?_
  obtain ⟨g98, h99⟩ := qk_el h97; clear h97
  obtain ⟨x100, e101, h102⟩ := qv_el h99; clear h99
  refine xv_getIv (pc := 208) fn_704 (isb_el g98) e101 gw_124 dX9_step_208 ?_
  refine ev_iconst (pc := 211) (v := 1) (by decide) dX9_step_211 ?_
  refine ev_iadd (pc := 212)  dX9_step_212 ?_
  obtain ⟨S103, e104, h105⟩ := qv_el h102; clear h102
  refine yv_putI (pc := 213) fn_705 ⟨rfl, rfl⟩ (isb_el g98) e104 gw_125 dX9_step_213 ?_
  exact ev_return (pc := 216) rfl (qRU_eq h105) dX9_step_216
theorem e_X9_step_120 {X : gk_X} {F : Nat} {l0 : Nat} {S : gk_S} {r : (Unit × gk_S)} (h0 : f_X9_step_120 F l0 S = some r) : EvW X m_X9_step 6 0 0 120 [some (.ref l0)] [] S (qRU r) := by
  unfold f_X9_step_120 at h0
  refine ev_aload_n (pc := 120) (i := 0) rfl rfl rfl dX9_step_120 ?_
  obtain ⟨g40, h41⟩ := qk_el h0; clear h0
  obtain ⟨x42, e43, h44⟩ := qv_el h41; clear h41
  refine xv_getIv (pc := 121) fn_704 (isb_el g40) e43 gw_124 dX9_step_121 ?_
  refine ev_aload_n (pc := 124) (i := 0) rfl rfl rfl dX9_step_124 ?_
  obtain ⟨b45, e46, h47⟩ := qP_el h44; clear h44
  refine xv_getP (pc := 125) fn_700 (isb_el g40) e46 gw_118 dX9_step_125 ?_
  obtain ⟨g48, h49⟩ := qk_el h47; clear h47
  obtain ⟨x50, e51, h52⟩ := qv_el h49; clear h49
  refine xv_getIv (pc := 128) fn_101 (isb_el g48) e51 gw_43 dX9_step_128 ?_
  refine ev_ic_lt (pc := 131) (tgt := 144) (by decide) dX9_step_131 (fun c53 => ?_) (fun c53 => ?_)
  · replace h52 := qi_t h52 c53
    refine ev_aload_n (pc := 144) (i := 0) rfl rfl rfl dX9_step_144 ?_
    obtain ⟨b55, e56, h57⟩ := qP_el h52; clear h52
    refine xv_getP (pc := 145) fn_700 (isb_el g40) e56 gw_118 dX9_step_145 ?_
    refine ev_aload_n (pc := 148) (i := 0) rfl rfl rfl dX9_step_148 ?_
    obtain ⟨x58, e59, h60⟩ := qv_el h57; clear h57
    refine xv_getIv (pc := 149) fn_704 (isb_el g40) e59 gw_124 dX9_step_149 ?_
    obtain ⟨g61, h62⟩ := qk_el h60; clear h60
    obtain ⟨x63, S64, e65, h66⟩ := qc_el h62; clear h62
    refine xv_callV (pc := 152) (st := []) (as := [.int x58]) (v := (some (.int x63))) (S' := S64) ok_X2_at (e_X2_at e65) (isb_el g61) (by decide) rfl (Nat.le_of_ble_eq_true rfl) rfl gw_468 dX9_step_152 ?_
    obtain ⟨x67, S68, e69, h70⟩ := qc_el h66; clear h66
    refine xv_callS (pc := 155) (st := []) (as := [.int x63]) (v := (some (.int x67))) (S' := S68) ok_X9_isLetterOrDigit (e_X9_isLetterOrDigit e69) (by decide) rfl (Nat.le_of_ble_eq_true rfl) rfl gw_472 dX9_step_155 ?_
    refine ev_if_eq (pc := 158) (tgt := 168) (by decide) dX9_step_158 (fun c71 => ?_) (fun c71 => ?_)
    · replace h70 := qi_t h70 c71
      refine ev_aload_n (pc := 168) (i := 0) rfl rfl rfl dX9_step_168 ?_
      refine ev_aload_n (pc := 169) (i := 0) rfl rfl rfl dX9_step_169 ?_
      obtain ⟨g73, h74⟩ := qk_el h70; clear h70
      obtain ⟨b75, e76, h77⟩ := qP_el h74; clear h74
      refine xv_getP (pc := 170) fn_700 (isb_el g73) e76 gw_118 dX9_step_170 ?_
      refine ev_aload_n (pc := 173) (i := 0) rfl rfl rfl dX9_step_173 ?_
      obtain ⟨x78, e79, h80⟩ := qv_el h77; clear h77
      refine xv_getIv (pc := 174) fn_704 (isb_el g73) e79 gw_124 dX9_step_174 ?_
      obtain ⟨g81, h82⟩ := qk_el h80; clear h80
      obtain ⟨x83, S84, e85, h86⟩ := qc_el h82; clear h82
      refine xv_callV (pc := 177) (st := [.ref l0]) (as := [.int x78]) (v := (some (.int x83))) (S' := S84) ok_X2_at (e_X2_at e85) (isb_el g81) (by decide) rfl (Nat.le_of_ble_eq_true rfl) rfl gw_468 dX9_step_177 ?_
      obtain ⟨x87, S88, e89, h90⟩ := qc_el h86; clear h86
      refine xv_callS (pc := 180) (st := [.ref l0]) (as := [.int x83]) (v := (some (.int x87))) (S' := S88) ok_X9_isSign (e_X9_isSign e89) (by decide) rfl (Nat.le_of_ble_eq_true rfl) rfl gw_495 dX9_step_180 ?_
      refine ev_if_eq (pc := 183) (tgt := 200) (by decide) dX9_step_183 (fun c91 => ?_) (fun c91 => ?_)
      · replace h90 := qi_t h90 c91
        refine ev_sipush (pc := 200) (v := 260) (by decide) dX9_step_200 ?_
        exact ev_weak (qL_s qL_nil) (e_X9_step_203 h90)
      · replace h90 := qi_f h90 c91
        refine ev_aload_n (pc := 186) (i := 0) rfl rfl rfl dX9_step_186 ?_
        obtain ⟨g106, h107⟩ := qk_el h90; clear h90
        obtain ⟨b108, e109, h110⟩ := qP_el h107; clear h107
        refine xv_getP (pc := 187) fn_700 (isb_el g106) e109 gw_118 dX9_step_187 ?_
        refine ev_aload_n (pc := 190) (i := 0) rfl rfl rfl dX9_step_190 ?_
        obtain ⟨x111, e112, h113⟩ := qv_el h110; clear h110
        refine xv_getIv (pc := 191) fn_704 (isb_el g106) e112 gw_124 dX9_step_191 ?_
        obtain ⟨g114, h115⟩ := qk_el h113; clear h113
        obtain ⟨x116, S117, e118, h119⟩ := qc_el h115; clear h115
        refine xv_callV (pc := 194) (st := [.ref l0]) (as := [.int x111]) (v := (some (.int x116))) (S' := S117) ok_X2_at (e_X2_at e118) (isb_el g114) (by decide) rfl (Nat.le_of_ble_eq_true rfl) rfl gw_468 dX9_step_194 ?_
        refine ev_goto (pc := 197) (tgt := 203) (by decide) dX9_step_197 ?_
        exact ev_weak (qL_s qL_nil) (e_X9_step_203 h119)
    · replace h70 := qi_f h70 c71
      refine ev_aload_n (pc := 161) (i := 0) rfl rfl rfl dX9_step_161 ?_
      obtain ⟨g120, h121⟩ := qk_el h70; clear h70
      obtain ⟨x122, S123, e124, h125⟩ := qc_el h121; clear h121
      refine xv_callV (pc := 162) (st := []) (as := []) (v := none) (S' := S123) ok_X9_readRun (e_X9_readRun e124) (isb_el g120) (by decide) rfl (Nat.le_of_ble_eq_true rfl) rfl gw_478 dX9_step_162 ?_
      refine ev_goto (pc := 165) (tgt := 216) (by decide) dX9_step_165 ?_
      exact ev_return (pc := 216) rfl (qRU_eq h125) dX9_step_216
  · replace h52 := qi_f h52 c53
    refine ev_aload_n (pc := 134) (i := 0) rfl rfl rfl dX9_step_134 ?_
    refine ev_sipush (pc := 135) (v := 256) (by decide) dX9_step_135 ?_
    obtain ⟨S126, e127, h128⟩ := qv_el h52; clear h52
    refine yv_putI (pc := 138) fn_703 ⟨rfl, rfl⟩ (isb_el g40) e127 gw_123 dX9_step_138 ?_
    refine ev_goto (pc := 141) (tgt := 216) (by decide) dX9_step_141 ?_
    exact ev_return (pc := 216) rfl (qRU_eq h128) dX9_step_216
theorem e_X9_step_67 {X : gk_X} {F : Nat} {l0 : Nat} {S : gk_S} {r : (Unit × gk_S)} (h0 : f_X9_step_67 F l0 S = some r) : EvW X m_X9_step 6 0 0 67 [some (.ref l0)] [] S (qRU r) := by
  unfold f_X9_step_67 at h0
  refine ev_aload_n (pc := 67) (i := 0) rfl rfl rfl dX9_step_67 ?_
  refine ev_aload_n (pc := 68) (i := 0) rfl rfl rfl dX9_step_68 ?_
  obtain ⟨g24, h25⟩ := qk_el h0; clear h0
  obtain ⟨x26, e27, h28⟩ := qv_el h25; clear h25
  refine xv_getIv (pc := 69) fn_704 (isb_el g24) e27 gw_124 dX9_step_69 ?_
  obtain ⟨S29, e30, h31⟩ := qv_el h28; clear h28
  refine yv_putI (pc := 72) fn_705 ⟨rfl, rfl⟩ (isb_el g24) e30 gw_125 dX9_step_72 ?_
  refine ev_aload_n (pc := 75) (i := 0) rfl rfl rfl dX9_step_75 ?_
  refine ev_lconst (pc := 76) (v := 0) (by decide) dX9_step_76 ?_
  obtain ⟨S32, e33, h34⟩ := qv_el h31; clear h31
  refine yv_putJ (pc := 77) fn_706 (is_sI (isb_el g24) e30) e33 gw_126 dX9_step_77 ?_
  refine ev_aload_n (pc := 80) (i := 0) rfl rfl rfl dX9_step_80 ?_
  obtain ⟨x35, e36, h37⟩ := qv_el h34; clear h34
  refine xv_getIv (pc := 81) fn_704 (is_sJ (is_sI (isb_el g24) e30) e33) e36 gw_124 dX9_step_81 ?_
  refine ev_sipush (pc := 84) (v := 2000) (by decide) dX9_step_84 ?_
  refine ev_ic_lt (pc := 87) (tgt := 120) (by decide) dX9_step_87 (fun c38 => ?_) (fun c38 => ?_)
  · replace h37 := qi_t h37 c38
    exact ev_weak (qL_s qL_nil) (e_X9_step_120 h37)
  · replace h37 := qi_f h37 c38
    refine ev_aload_n (pc := 90) (i := 0) rfl rfl rfl dX9_step_90 ?_
    obtain ⟨b129, e130, h131⟩ := qP_el h37; clear h37
    refine xv_getP (pc := 91) fn_700 (is_sJ (is_sI (isb_el g24) e30) e33) e130 gw_118 dX9_step_91 ?_
    obtain ⟨g132, h133⟩ := qk_el h131; clear h131
    obtain ⟨x134, e135, h136⟩ := qv_el h133; clear h133
    refine xv_getIv (pc := 94) fn_101 (isb_el g132) e135 gw_43 dX9_step_94 ?_
    refine ev_sipush (pc := 97) (v := 2000) (by decide) dX9_step_97 ?_
    refine ev_ic_le (pc := 100) (tgt := 120) (by decide) dX9_step_100 (fun c137 => ?_) (fun c137 => ?_)
    · replace h136 := qi_t h136 c137
      exact ev_weak (qL_s qL_nil) (e_X9_step_120 h136)
    · replace h136 := qi_f h136 c137
      refine ev_aload_n (pc := 103) (i := 0) rfl rfl rfl dX9_step_103 ?_
      refine ev_sipush (pc := 104) (v := 261) (by decide) dX9_step_104 ?_
      obtain ⟨S139, e140, h141⟩ := qv_el h136; clear h136
      refine yv_putI (pc := 107) fn_703 ⟨rfl, rfl⟩ (is_sJ (is_sI (isb_el g24) e30) e33) e140 gw_123 dX9_step_107 ?_
      refine ev_aload_n (pc := 110) (i := 0) rfl rfl rfl dX9_step_110 ?_
      refine ev_sipush (pc := 111) (v := 2000) (by decide) dX9_step_111 ?_
      obtain ⟨S142, e143, h144⟩ := qv_el h141; clear h141
      refine yv_putI (pc := 114) fn_704 ⟨rfl, rfl⟩ (is_sI (is_sJ (is_sI (isb_el g24) e30) e33) e140) e143 gw_124 dX9_step_114 ?_
      refine ev_goto (pc := 117) (tgt := 216) (by decide) dX9_step_117 ?_
      exact ev_return (pc := 216) rfl (qRU_eq h144) dX9_step_216
theorem e_X9_step_54 {X : gk_X} {F : Nat} {k8 : Nat → gk_S → Option (Unit × gk_S)} (hk8 : ∀ (l0 : Nat) (S : gk_S) (r : (Unit × gk_S)), k8 l0 S = some r → EvW X m_X9_step 6 0 0 8 [some (.ref l0)] [] S (qRU r)) {l0 : Nat} {S : gk_S} {r : (Unit × gk_S)} (h0 : f_X9_step_54 F k8 l0 S = some r) : EvW X m_X9_step 6 0 0 54 [some (.ref l0)] [] S (qRU r) := by
  unfold f_X9_step_54 at h0
  refine ev_aload_n (pc := 54) (i := 0) rfl rfl rfl dX9_step_54 ?_
  refine ev_dup (pc := 55) (.inr rfl) dX9_step_55 ?_
  obtain ⟨g159, h160⟩ := qk_el h0; clear h0
  obtain ⟨x161, e162, h163⟩ := qv_el h160; clear h160
  refine xv_getIv (pc := 56) fn_704 (isb_el g159) e162 gw_124 dX9_step_56 ?_
  refine ev_iconst (pc := 59) (v := 1) (by decide) dX9_step_59 ?_
  refine ev_iadd (pc := 60)  dX9_step_60 ?_
  obtain ⟨S164, e165, h166⟩ := qv_el h163; clear h163
  refine yv_putI (pc := 61) fn_704 ⟨rfl, rfl⟩ (isb_el g159) e165 gw_124 dX9_step_61 ?_
  refine ev_goto (pc := 64) (tgt := 8) (by decide) dX9_step_64 ?_
  exact ev_weak (qL_s qL_nil) (hk8 _ _ _ h166)
theorem e_X9_step_8 {X : gk_X} {F : Nat} : ∀ (n : Nat) (l0 : Nat) (S : gk_S) (r : (Unit × gk_S)), f_X9_step_8 F n l0 S = some r → EvW X m_X9_step 6 0 0 8 [some (.ref l0)] [] S (qRU r) := by
  intro n
  induction n with
  | zero => intro l0 S r h0; rw [f_X9_step_8] at h0; cases h0
  | succ n ih =>
    intro l0 S r h0; rw [f_X9_step_8] at h0
    refine ev_aload_n (pc := 8) (i := 0) rfl rfl rfl dX9_step_8 ?_
    obtain ⟨g9, h10⟩ := qk_el h0; clear h0
    obtain ⟨x11, e12, h13⟩ := qv_el h10; clear h10
    refine xv_getIv (pc := 9) fn_704 (isb_el g9) e12 gw_124 dX9_step_9 ?_
    refine ev_aload_n (pc := 12) (i := 0) rfl rfl rfl dX9_step_12 ?_
    obtain ⟨b14, e15, h16⟩ := qP_el h13; clear h13
    refine xv_getP (pc := 13) fn_700 (isb_el g9) e15 gw_118 dX9_step_13 ?_
    obtain ⟨g17, h18⟩ := qk_el h16; clear h16
    obtain ⟨x19, e20, h21⟩ := qv_el h18; clear h18
    refine xv_getIv (pc := 16) fn_101 (isb_el g17) e20 gw_43 dX9_step_16 ?_
    refine ev_ic_ge (pc := 19) (tgt := 67) (by decide) dX9_step_19 (fun c22 => ?_) (fun c22 => ?_)
    · replace h21 := qi_t h21 c22
      exact ev_weak (qL_s qL_nil) (e_X9_step_67 h21)
    · replace h21 := qi_f h21 c22
      refine ev_aload_n (pc := 22) (i := 0) rfl rfl rfl dX9_step_22 ?_
      obtain ⟨b145, e146, h147⟩ := qP_el h21; clear h21
      refine xv_getP (pc := 23) fn_700 (isb_el g9) e146 gw_118 dX9_step_23 ?_
      refine ev_aload_n (pc := 26) (i := 0) rfl rfl rfl dX9_step_26 ?_
      obtain ⟨x148, e149, h150⟩ := qv_el h147; clear h147
      refine xv_getIv (pc := 27) fn_704 (isb_el g9) e149 gw_124 dX9_step_27 ?_
      obtain ⟨g151, h152⟩ := qk_el h150; clear h150
      obtain ⟨x153, S154, e155, h156⟩ := qc_el h152; clear h152
      refine xv_callV (pc := 30) (st := []) (as := [.int x148]) (v := (some (.int x153))) (S' := S154) ok_X2_at (e_X2_at e155) (isb_el g151) (by decide) rfl (Nat.le_of_ble_eq_true rfl) rfl gw_468 dX9_step_30 ?_
      refine ev_bipush (pc := 33) (v := 10) (by decide) dX9_step_33 ?_
      refine ev_ic_eq (pc := 35) (tgt := 54) (by decide) dX9_step_35 (fun c157 => ?_) (fun c157 => ?_)
      · replace h156 := qi_t h156 c157
        exact ev_weak (qL_s qL_nil) (e_X9_step_54 ih h156)
      · replace h156 := qi_f h156 c157
        refine ev_aload_n (pc := 38) (i := 0) rfl rfl rfl dX9_step_38 ?_
        obtain ⟨g167, h168⟩ := qk_el h156; clear h156
        obtain ⟨b169, e170, h171⟩ := qP_el h168; clear h168
        refine xv_getP (pc := 39) fn_700 (isb_el g167) e170 gw_118 dX9_step_39 ?_
        refine ev_aload_n (pc := 42) (i := 0) rfl rfl rfl dX9_step_42 ?_
        obtain ⟨x172, e173, h174⟩ := qv_el h171; clear h171
        refine xv_getIv (pc := 43) fn_704 (isb_el g167) e173 gw_124 dX9_step_43 ?_
        obtain ⟨g175, h176⟩ := qk_el h174; clear h174
        obtain ⟨x177, S178, e179, h180⟩ := qc_el h176; clear h176
        refine xv_callV (pc := 46) (st := []) (as := [.int x172]) (v := (some (.int x177))) (S' := S178) ok_X2_at (e_X2_at e179) (isb_el g175) (by decide) rfl (Nat.le_of_ble_eq_true rfl) rfl gw_468 dX9_step_46 ?_
        refine ev_bipush (pc := 49) (v := 32) (by decide) dX9_step_49 ?_
        refine ev_ic_ne (pc := 51) (tgt := 67) (by decide) dX9_step_51 (fun c181 => ?_) (fun c181 => ?_)
        · replace h180 := qi_f h180 c181
          exact ev_weak (qL_s qL_nil) (e_X9_step_67 h180)
        · replace h180 := qi_t h180 c181
          exact ev_weak (qL_s qL_nil) (e_X9_step_54 ih h180)
theorem e_X9_step {X : gk_X} {F : Nat} {S : gk_S} {a : Nat} {r : (Unit × gk_S)} (h0 : f_X9_step F S a = some r) : EvM X m_X9_step 6 0 0 [.ref a] S (qRU r) := by
  unfold f_X9_step at h0
  refine ev_method (by decide +kernel) rfl rfl (Nat.le_of_ble_eq_true rfl) ?_
  show EvW X m_X9_step 6 0 0 0 [some (.ref a)] [] S _
  refine ev_aload_n (pc := 0) (i := 0) rfl rfl rfl dX9_step_0 ?_
  refine ev_aload_n (pc := 1) (i := 0) rfl rfl rfl dX9_step_1 ?_
  obtain ⟨g1, h2⟩ := qk_el h0; clear h0
  obtain ⟨x3, e4, h5⟩ := qv_el h2; clear h2
  refine xv_getIv (pc := 2) fn_705 (isb_el g1) e4 gw_125 dX9_step_2 ?_
  obtain ⟨S6, e7, h8⟩ := qv_el h5; clear h5
  refine yv_putI (pc := 5) fn_704 ⟨rfl, rfl⟩ (isb_el g1) e7 gw_124 dX9_step_5 ?_
  exact ev_weak (qL_s qL_nil) (e_X9_step_8 F _ _ _ h8)
theorem dX9_isWord_0 : decode cX9_isWord 0 = .ok (.aload_n 0, 1) := by decide +kernel
theorem dX9_isWord_1 : decode cX9_isWord 1 = .ok (.getfield 22, 3) := by decide +kernel
theorem dX9_isWord_4 : decode cX9_isWord 4 = .ok (.sipush 257, 3) := by decide +kernel
theorem dX9_isWord_7 : decode cX9_isWord 7 = .ok (.if_icmp .ne 19, 3) := by decide +kernel
theorem dX9_isWord_10 : decode cX9_isWord 10 = .ok (.aload_n 0, 1) := by decide +kernel
theorem dX9_isWord_11 : decode cX9_isWord 11 = .ok (.getfield 28, 3) := by decide +kernel
theorem dX9_isWord_14 : decode cX9_isWord 14 = .ok (.aload_n 0, 1) := by decide +kernel
theorem dX9_isWord_15 : decode cX9_isWord 15 = .ok (.getfield 25, 3) := by decide +kernel
theorem dX9_isWord_18 : decode cX9_isWord 18 = .ok (.isub, 1) := by decide +kernel
theorem dX9_isWord_19 : decode cX9_isWord 19 = .ok (.aload_n 1, 1) := by decide +kernel
theorem dX9_isWord_20 : decode cX9_isWord 20 = .ok (.invokevirtual 161, 3) := by decide +kernel
theorem dX9_isWord_23 : decode cX9_isWord 23 = .ok (.if_icmp .eq 5, 3) := by decide +kernel
theorem dX9_isWord_26 : decode cX9_isWord 26 = .ok (.iconst 0, 1) := by decide +kernel
theorem dX9_isWord_27 : decode cX9_isWord 27 = .ok (.ireturn, 1) := by decide +kernel
theorem dX9_isWord_28 : decode cX9_isWord 28 = .ok (.iconst 0, 1) := by decide +kernel
theorem dX9_isWord_29 : decode cX9_isWord 29 = .ok (.istore_n 2, 1) := by decide +kernel
theorem dX9_isWord_30 : decode cX9_isWord 30 = .ok (.iload_n 2, 1) := by decide +kernel
theorem dX9_isWord_31 : decode cX9_isWord 31 = .ok (.aload_n 1, 1) := by decide +kernel
theorem dX9_isWord_32 : decode cX9_isWord 32 = .ok (.invokevirtual 161, 3) := by decide +kernel
theorem dX9_isWord_35 : decode cX9_isWord 35 = .ok (.if_icmp .ge 32, 3) := by decide +kernel
theorem dX9_isWord_38 : decode cX9_isWord 38 = .ok (.aload_n 0, 1) := by decide +kernel
theorem dX9_isWord_39 : decode cX9_isWord 39 = .ok (.getfield 9, 3) := by decide +kernel
theorem dX9_isWord_42 : decode cX9_isWord 42 = .ok (.aload_n 0, 1) := by decide +kernel
theorem dX9_isWord_43 : decode cX9_isWord 43 = .ok (.getfield 25, 3) := by decide +kernel
theorem dX9_isWord_46 : decode cX9_isWord 46 = .ok (.iload_n 2, 1) := by decide +kernel
theorem dX9_isWord_47 : decode cX9_isWord 47 = .ok (.iadd, 1) := by decide +kernel
theorem dX9_isWord_48 : decode cX9_isWord 48 = .ok (.invokevirtual 166, 3) := by decide +kernel
theorem dX9_isWord_51 : decode cX9_isWord 51 = .ok (.aload_n 1, 1) := by decide +kernel
theorem dX9_isWord_52 : decode cX9_isWord 52 = .ok (.iload_n 2, 1) := by decide +kernel
theorem dX9_isWord_53 : decode cX9_isWord 53 = .ok (.invokevirtual 170, 3) := by decide +kernel
theorem dX9_isWord_56 : decode cX9_isWord 56 = .ok (.if_icmp .eq 5, 3) := by decide +kernel
theorem dX9_isWord_59 : decode cX9_isWord 59 = .ok (.iconst 0, 1) := by decide +kernel
theorem dX9_isWord_60 : decode cX9_isWord 60 = .ok (.ireturn, 1) := by decide +kernel
theorem dX9_isWord_61 : decode cX9_isWord 61 = .ok (.iinc 2 1, 3) := by decide +kernel
theorem dX9_isWord_64 : decode cX9_isWord 64 = .ok (.goto (-34), 3) := by decide +kernel
theorem dX9_isWord_67 : decode cX9_isWord 67 = .ok (.iconst 1, 1) := by decide +kernel
theorem dX9_isWord_68 : decode cX9_isWord 68 = .ok (.ireturn, 1) := by decide +kernel
theorem e_X9_isWord_30 {X : gk_X} {F : Nat} : ∀ (n : Nat) (l0 : Nat) (l1 : Nat) (l2 : Int32) (S : gk_S) (r : (Int32 × gk_S)), f_X9_isWord_30 F n l0 l1 l2 S = some r → EvW X m_X9_isWord 5 0 0 30 [some (.ref l0), some (.retAddr (10 + l1)), some (.int l2)] [] S (qRI r) := by
  intro n
  induction n with
  | zero => intro l0 l1 l2 S r h0; rw [f_X9_isWord_30] at h0; cases h0
  | succ n ih =>
    intro l0 l1 l2 S r h0; rw [f_X9_isWord_30] at h0
    refine ev_iload_n (pc := 30) (i := 2) rfl rfl dX9_isWord_30 ?_
    obtain ⟨g21, h22⟩ := qk_el h0; clear h0
    refine ev_aload_n (pc := 31) (i := 1) rfl rfl (by simp [gk_isR]; have := (ltb_el g21); omega) dX9_isWord_31 ?_
    obtain ⟨x23, S24, e25, h26⟩ := qc_el h22; clear h22
    refine xv_callT (pc := 32) (st := [.int l2]) (as := []) (v := (some (.int x23))) (S' := S24) (i9 := l1) ok_J0_length_8abf5 (e_J0_length_8abf5 e25) (ltb_el g21) (by decide) rfl (Nat.le_of_ble_eq_true rfl) rfl gw_507 dX9_isWord_32 ?_
    refine ev_ic_ge (pc := 35) (tgt := 67) (by decide) dX9_isWord_35 (fun c27 => ?_) (fun c27 => ?_)
    · replace h26 := qi_t h26 c27
      refine ev_iconst (pc := 67) (v := 1) (by decide) dX9_isWord_67 ?_
      exact ev_ireturn (pc := 68) rfl rfl (qRI_eq h26) dX9_isWord_68
    · replace h26 := qi_f h26 c27
      refine ev_aload_n (pc := 38) (i := 0) rfl rfl rfl dX9_isWord_38 ?_
      obtain ⟨g29, h30⟩ := qk_el h26; clear h26
      obtain ⟨b31, e32, h33⟩ := qP_el h30; clear h30
      refine xv_getP (pc := 39) fn_700 (isb_el g29) e32 gw_118 dX9_isWord_39 ?_
      refine ev_aload_n (pc := 42) (i := 0) rfl rfl rfl dX9_isWord_42 ?_
      obtain ⟨x34, e35, h36⟩ := qv_el h33; clear h33
      refine xv_getIv (pc := 43) fn_704 (isb_el g29) e35 gw_124 dX9_isWord_43 ?_
      refine ev_iload_n (pc := 46) (i := 2) rfl rfl dX9_isWord_46 ?_
      refine ev_iadd (pc := 47)  dX9_isWord_47 ?_
      obtain ⟨g37, h38⟩ := qk_el h36; clear h36
      obtain ⟨x39, S40, e41, h42⟩ := qc_el h38; clear h38
      refine xv_callV (pc := 48) (st := []) (as := [.int (x34 + l2)]) (v := (some (.int x39))) (S' := S40) ok_X2_at (e_X2_at e41) (isb_el g37) (by decide) rfl (Nat.le_of_ble_eq_true rfl) rfl gw_468 dX9_isWord_48 ?_
      refine ev_aload_n (pc := 51) (i := 1) rfl rfl (by simp [gk_isR]; have := (ltb_el g21); omega) dX9_isWord_51 ?_
      refine ev_iload_n (pc := 52) (i := 2) rfl rfl dX9_isWord_52 ?_
      obtain ⟨x43, S44, e45, h46⟩ := qc_el h42; clear h42
      refine xv_callT (pc := 53) (st := [.int x39]) (as := [.int l2]) (v := (some (.int x43))) (S' := S44) (i9 := l1) ok_J0_charAt_5068e (e_J0_charAt_5068e e45) (ltb_el g21) (by decide) rfl (Nat.le_of_ble_eq_true rfl) rfl gw_517 dX9_isWord_53 ?_
      refine ev_ic_eq (pc := 56) (tgt := 61) (by decide) dX9_isWord_56 (fun c47 => ?_) (fun c47 => ?_)
      · replace h46 := qi_t h46 c47
        refine ev_iinc (pc := 61) (L' := [some (.ref l0), some (.retAddr (10 + l1)), some (.int (l2 + 1))]) (i := 2) (v := (l2 + 1)) rfl rfl (by decide) (by simp [gk_okL, gk_isR]; have := (ltb_el g21); omega) rfl dX9_isWord_61 ?_
        refine ev_goto (pc := 64) (tgt := 30) (by decide) dX9_isWord_64 ?_
        exact (ev_weak (qL_s (qL_s (qL_s qL_nil))) (ih _ _ _ _ _ h46))
      · replace h46 := qi_f h46 c47
        refine ev_iconst (pc := 59) (v := 0) (by decide) dX9_isWord_59 ?_
        exact ev_ireturn (pc := 60) rfl rfl (qRI_eq h46) dX9_isWord_60
theorem e_X9_isWord {X : gk_X} {F : Nat} {S : gk_S} {a : Nat} {p0 : Nat} {r : (Int32 × gk_S)} (h0 : f_X9_isWord F S a p0 = some r) : EvM X m_X9_isWord 5 0 0 [.ref a, .retAddr (10 + p0)] S (qRI r) := by
  unfold f_X9_isWord at h0
  obtain ⟨g1, h1⟩ := qk_el h0; clear h0; rename _ => h0
  refine ev_method (by decide +kernel) rfl (by simp [gk_okv, gk_isR]; have := (ltb_el g1); omega) (Nat.le_of_ble_eq_true rfl) ?_
  show EvW X m_X9_isWord 5 0 0 0 [some (.ref a), some (.retAddr (10 + p0)), none] [] S _
  refine ev_aload_n (pc := 0) (i := 0) rfl rfl rfl dX9_isWord_0 ?_
  obtain ⟨g2, h3⟩ := qk_el h0; clear h0
  obtain ⟨x4, e5, h6⟩ := qv_el h3; clear h3
  refine xv_getIv (pc := 1) fn_703 (isb_el g2) e5 gw_123 dX9_isWord_1 ?_
  refine ev_sipush (pc := 4) (v := 257) (by decide) dX9_isWord_4 ?_
  refine ev_ic_ne (pc := 7) (tgt := 26) (by decide) dX9_isWord_7 (fun c7 => ?_) (fun c7 => ?_)
  · replace h6 := qi_f h6 c7
    refine ev_iconst (pc := 26) (v := 0) (by decide) dX9_isWord_26 ?_
    exact ev_ireturn (pc := 27) rfl rfl (qRI_eq h6) dX9_isWord_27
  · replace h6 := qi_t h6 c7
    refine ev_aload_n (pc := 10) (i := 0) rfl rfl rfl dX9_isWord_10 ?_
    obtain ⟨x9, e10, h11⟩ := qv_el h6; clear h6
    refine xv_getIv (pc := 11) fn_705 (isb_el g2) e10 gw_125 dX9_isWord_11 ?_
    refine ev_aload_n (pc := 14) (i := 0) rfl rfl rfl dX9_isWord_14 ?_
    obtain ⟨x12, e13, h14⟩ := qv_el h11; clear h11
    refine xv_getIv (pc := 15) fn_704 (isb_el g2) e13 gw_124 dX9_isWord_15 ?_
    refine ev_isub (pc := 18)  dX9_isWord_18 ?_
    refine ev_aload_n (pc := 19) (i := 1) rfl rfl (by simp [gk_isR]; have := (ltb_el g1); omega) dX9_isWord_19 ?_
    obtain ⟨x15, S16, e17, h18⟩ := qc_el h14; clear h14
    refine xv_callT (pc := 20) (st := [.int (x9 - x12)]) (as := []) (v := (some (.int x15))) (S' := S16) (i9 := p0) ok_J0_length_8abf5 (e_J0_length_8abf5 e17) (ltb_el g1) (by decide) rfl (Nat.le_of_ble_eq_true rfl) rfl gw_507 dX9_isWord_20 ?_
    refine ev_ic_eq (pc := 23) (tgt := 28) (by decide) dX9_isWord_23 (fun c19 => ?_) (fun c19 => ?_)
    · replace h18 := qi_t h18 c19
      refine ev_iconst (pc := 28) (v := 0) (by decide) dX9_isWord_28 ?_
      refine ev_istore_n (pc := 29) (L' := [some (.ref a), some (.retAddr (10 + p0)), some (.int 0)]) (i := 2) rfl (by decide) (by simp [gk_okL, gk_isR]; have := (ltb_el g1); omega) rfl dX9_isWord_29 ?_
      exact ev_weak (qL_s (qL_s (qL_s qL_nil))) (e_X9_isWord_30 F _ _ _ _ _ h18)
    · replace h18 := qi_f h18 c19
      refine ev_iconst (pc := 26) (v := 0) (by decide) dX9_isWord_26 ?_
      exact ev_ireturn (pc := 27) rfl rfl (qRI_eq h18) dX9_isWord_27
theorem dX9_go_0 : decode cX9_go 0 = .ok (.aload_n 0, 1) := by decide +kernel
theorem dX9_go_1 : decode cX9_go 1 = .ok (.iload_n 1, 1) := by decide +kernel
theorem dX9_go_2 : decode cX9_go 2 = .ok (.putfield 35, 3) := by decide +kernel
theorem dX9_go_5 : decode cX9_go 5 = .ok (.iconst 0, 1) := by decide +kernel
theorem dX9_go_6 : decode cX9_go 6 = .ok (.ireturn, 1) := by decide +kernel
theorem e_X9_go {X : gk_X} {F : Nat} {S : gk_S} {a : Nat} {p0 : Int32} {r : (Int32 × gk_S)} (h0 : f_X9_go F S a p0 = some r) : EvM X m_X9_go 1 0 0 [.ref a, .int p0] S (qRI r) := by
  unfold f_X9_go at h0
  refine ev_method (by decide +kernel) rfl rfl (Nat.le_of_ble_eq_true rfl) ?_
  show EvW X m_X9_go 1 0 0 0 [some (.ref a), some (.int p0)] [] S _
  refine ev_aload_n (pc := 0) (i := 0) rfl rfl rfl dX9_go_0 ?_
  refine ev_iload_n (pc := 1) (i := 1) rfl rfl dX9_go_1 ?_
  obtain ⟨g1, h2⟩ := qk_el h0; clear h0
  obtain ⟨S3, e4, h5⟩ := qv_el h2; clear h2
  refine yv_putI (pc := 2) fn_707 ⟨rfl, rfl⟩ (isb_el g1) e4 gw_127 dX9_go_2 ?_
  refine ev_iconst (pc := 5) (v := 0) (by decide) dX9_go_5 ?_
  exact ev_ireturn (pc := 6) rfl (nar_int _) (qRI_eq h5) dX9_go_6
theorem dX11_actionWord_0 : decode cX11_actionWord 0 = .ok (.iload_n 0, 1) := by decide +kernel
theorem dX11_actionWord_1 : decode cX11_actionWord 1 = .ok (.lookupswitch 35 #[(0, 27), (1, 31)], 27) := by decide +kernel
theorem dX11_actionWord_28 : decode cX11_actionWord 28 = .ok (.ldc_w 286, 3) := by decide +kernel
theorem dX11_actionWord_31 : decode cX11_actionWord 31 = .ok (.areturn, 1) := by decide +kernel
theorem dX11_actionWord_32 : decode cX11_actionWord 32 = .ok (.ldc_w 288, 3) := by decide +kernel
theorem dX11_actionWord_35 : decode cX11_actionWord 35 = .ok (.areturn, 1) := by decide +kernel
theorem dX11_actionWord_36 : decode cX11_actionWord 36 = .ok (.ldc_w 290, 3) := by decide +kernel
theorem dX11_actionWord_39 : decode cX11_actionWord 39 = .ok (.areturn, 1) := by decide +kernel
theorem e_X11_actionWord {X : gk_X} {F : Nat} {S : gk_S} {p0 : Int32} {r : (Nat × gk_S)} (h0 : f_X11_actionWord F S p0 = some r) : EvM X m_X11_actionWord 1 0 0 [.int p0] S (qRT r) := by
  unfold f_X11_actionWord at h0
  refine ev_method (by decide +kernel) rfl rfl (Nat.le_of_ble_eq_true rfl) ?_
  show EvW X m_X11_actionWord 1 0 0 0 [some (.int p0)] [] S _
  refine ev_iload_n (pc := 0) (i := 0) rfl rfl dX11_actionWord_0 ?_
  by_cases c1 : p0 = 0
  · refine ev_lookup (pc := 1) (off := 27) (tgt := 28) rfl (by rw [c1]; rfl) (by decide) dX11_actionWord_1 ?_
    replace h0 := qi_t h0 c1
    refine ev_ldcSW (pc := 28) (i := 2) (by decide) rfl rfl dX11_actionWord_28 ?_
    exact ev_areturn (pc := 31) rfl (by first | exact .inl ⟨_, rfl⟩ | exact .inr ⟨_, rfl⟩) rfl (qRT_eq h0) dX11_actionWord_31
  replace h0 := qi_f h0 c1
  by_cases c2 : p0 = 1
  · refine ev_lookup (pc := 1) (off := 31) (tgt := 32) rfl (by rw [c2]; rfl) (by decide) dX11_actionWord_1 ?_
    replace h0 := qi_t h0 c2
    refine ev_ldcSW (pc := 32) (i := 3) (by decide) rfl rfl dX11_actionWord_32 ?_
    exact ev_areturn (pc := 35) rfl (by first | exact .inl ⟨_, rfl⟩ | exact .inr ⟨_, rfl⟩) rfl (qRT_eq h0) dX11_actionWord_35
  replace h0 := qi_f h0 c2
  refine ev_lookup (pc := 1) (off := 35) (tgt := 36) rfl (lo_ne (ti_ne c1 rfl) (lo_ne (ti_ne c2 rfl) lo_nil)) (by decide) dX11_actionWord_1 ?_
  refine ev_ldcSW (pc := 36) (i := 4) (by decide) rfl rfl dX11_actionWord_36 ?_
  exact ev_areturn (pc := 39) rfl (by first | exact .inl ⟨_, rfl⟩ | exact .inr ⟨_, rfl⟩) rfl (qRT_eq h0) dX11_actionWord_39
theorem dX9_actionHere_0 : decode cX9_actionHere 0 = .ok (.iconst 0, 1) := by decide +kernel
theorem dX9_actionHere_1 : decode cX9_actionHere 1 = .ok (.istore_n 1, 1) := by decide +kernel
theorem dX9_actionHere_2 : decode cX9_actionHere 2 = .ok (.iload_n 1, 1) := by decide +kernel
theorem dX9_actionHere_3 : decode cX9_actionHere 3 = .ok (.iconst 3, 1) := by decide +kernel
theorem dX9_actionHere_4 : decode cX9_actionHere 4 = .ok (.if_icmp .ge 22, 3) := by decide +kernel
theorem dX9_actionHere_7 : decode cX9_actionHere 7 = .ok (.aload_n 0, 1) := by decide +kernel
theorem dX9_actionHere_8 : decode cX9_actionHere 8 = .ok (.iload_n 1, 1) := by decide +kernel
theorem dX9_actionHere_9 : decode cX9_actionHere 9 = .ok (.invokestatic 151, 3) := by decide +kernel
theorem dX9_actionHere_12 : decode cX9_actionHere 12 = .ok (.invokevirtual 61, 3) := by decide +kernel
theorem dX9_actionHere_15 : decode cX9_actionHere 15 = .ok (.ifCond .eq 5, 3) := by decide +kernel
theorem dX9_actionHere_18 : decode cX9_actionHere 18 = .ok (.iload_n 1, 1) := by decide +kernel
theorem dX9_actionHere_19 : decode cX9_actionHere 19 = .ok (.ireturn, 1) := by decide +kernel
theorem dX9_actionHere_20 : decode cX9_actionHere 20 = .ok (.iinc 1 1, 3) := by decide +kernel
theorem dX9_actionHere_23 : decode cX9_actionHere 23 = .ok (.goto (-21), 3) := by decide +kernel
theorem dX9_actionHere_26 : decode cX9_actionHere 26 = .ok (.iconst (-1), 1) := by decide +kernel
theorem dX9_actionHere_27 : decode cX9_actionHere 27 = .ok (.ireturn, 1) := by decide +kernel
theorem e_X9_actionHere_2 {X : gk_X} {F : Nat} : ∀ (n : Nat) (l0 : Nat) (l1 : Int32) (S : gk_S) (r : (Int32 × gk_S)), f_X9_actionHere_2 F n l0 l1 S = some r → EvW X m_X9_actionHere 6 0 0 2 [some (.ref l0), some (.int l1)] [] S (qRI r) := by
  intro n
  induction n with
  | zero => intro l0 l1 S r h0; rw [f_X9_actionHere_2] at h0; cases h0
  | succ n ih =>
    intro l0 l1 S r h0; rw [f_X9_actionHere_2] at h0
    refine ev_iload_n (pc := 2) (i := 1) rfl rfl dX9_actionHere_2 ?_
    refine ev_iconst (pc := 3) (v := 3) (by decide) dX9_actionHere_3 ?_
    refine ev_ic_ge (pc := 4) (tgt := 26) (by decide) dX9_actionHere_4 (fun c1 => ?_) (fun c1 => ?_)
    · replace h0 := qi_t h0 c1
      refine ev_iconst (pc := 26) (v := -1) (by decide) dX9_actionHere_26 ?_
      exact ev_ireturn (pc := 27) rfl (nar_int _) (qRI_eq h0) dX9_actionHere_27
    · replace h0 := qi_f h0 c1
      refine ev_aload_n (pc := 7) (i := 0) rfl rfl rfl dX9_actionHere_7 ?_
      refine ev_iload_n (pc := 8) (i := 1) rfl rfl dX9_actionHere_8 ?_
      obtain ⟨x3, S4, e5, h6⟩ := qc_el h0; clear h0
      refine xv_callSN (pc := 9) (st := [.ref l0]) (as := [.int l1]) (v := (some (.retAddr (10 + x3)))) (S' := S4) (host := "GateHouse") ok_X11_actionWord (e_X11_actionWord e5) (by decide) rfl (Nat.le_of_ble_eq_true rfl) rfl (by decide +kernel) dX9_actionHere_9 ?_
      obtain ⟨g7, h8⟩ := qk_el h6; clear h6
      obtain ⟨x9, S10, e11, h12⟩ := qc_el h8; clear h8
      refine xv_callV (pc := 12) (st := []) (as := [.retAddr (10 + x3)]) (v := (some (.int x9))) (S' := S10) ok_X9_isWord (e_X9_isWord e11) (isb_el g7) (by decide) rfl (Nat.le_of_ble_eq_true rfl) rfl gw_503 dX9_actionHere_12 ?_
      refine ev_if_eq (pc := 15) (tgt := 20) (by decide) dX9_actionHere_15 (fun c13 => ?_) (fun c13 => ?_)
      · replace h12 := qi_t h12 c13
        refine ev_iinc (pc := 20) (L' := [some (.ref l0), some (.int (l1 + 1))]) (i := 1) (v := (l1 + 1)) rfl rfl (by decide) rfl rfl dX9_actionHere_20 ?_
        refine ev_goto (pc := 23) (tgt := 2) (by decide) dX9_actionHere_23 ?_
        exact (ev_weak (qL_s (qL_s qL_nil)) (ih _ _ _ _ h12))
      · replace h12 := qi_f h12 c13
        refine ev_iload_n (pc := 18) (i := 1) rfl rfl dX9_actionHere_18 ?_
        exact ev_ireturn (pc := 19) rfl (nar_int _) (qRI_eq h12) dX9_actionHere_19
theorem e_X9_actionHere {X : gk_X} {F : Nat} {S : gk_S} {a : Nat} {r : (Int32 × gk_S)} (h0 : f_X9_actionHere F S a = some r) : EvM X m_X9_actionHere 6 0 0 [.ref a] S (qRI r) := by
  unfold f_X9_actionHere at h0
  refine ev_method (by decide +kernel) rfl rfl (Nat.le_of_ble_eq_true rfl) ?_
  show EvW X m_X9_actionHere 6 0 0 0 [some (.ref a), none] [] S _
  refine ev_iconst (pc := 0) (v := 0) (by decide) dX9_actionHere_0 ?_
  refine ev_istore_n (pc := 1) (L' := [some (.ref a), some (.int 0)]) (i := 1) rfl (by decide) rfl rfl dX9_actionHere_1 ?_
  exact ev_weak (qL_s (qL_s qL_nil)) (e_X9_actionHere_2 F _ _ _ _ h0)
theorem dX5_matchAll_0 : decode cX5_matchAll 0 = .ok (.iconst 0, 1) := by decide +kernel
theorem dX5_matchAll_1 : decode cX5_matchAll 1 = .ok (.istore_n 2, 1) := by decide +kernel
theorem dX5_matchAll_2 : decode cX5_matchAll 2 = .ok (.iload_n 2, 1) := by decide +kernel
theorem dX5_matchAll_3 : decode cX5_matchAll 3 = .ok (.bipush 6, 2) := by decide +kernel
theorem dX5_matchAll_5 : decode cX5_matchAll 5 = .ok (.if_icmp .ge 27, 3) := by decide +kernel
theorem dX5_matchAll_8 : decode cX5_matchAll 8 = .ok (.aload_n 0, 1) := by decide +kernel
theorem dX5_matchAll_9 : decode cX5_matchAll 9 = .ok (.getfield 9, 3) := by decide +kernel
theorem dX5_matchAll_12 : decode cX5_matchAll 12 = .ok (.iload_n 2, 1) := by decide +kernel
theorem dX5_matchAll_13 : decode cX5_matchAll 13 = .ok (.lconst 0, 1) := by decide +kernel
theorem dX5_matchAll_14 : decode cX5_matchAll 14 = .ok (.lastore, 1) := by decide +kernel
theorem dX5_matchAll_15 : decode cX5_matchAll 15 = .ok (.aload_n 0, 1) := by decide +kernel
theorem dX5_matchAll_16 : decode cX5_matchAll 16 = .ok (.getfield 15, 3) := by decide +kernel
theorem dX5_matchAll_19 : decode cX5_matchAll 19 = .ok (.iload_n 2, 1) := by decide +kernel
theorem dX5_matchAll_20 : decode cX5_matchAll 20 = .ok (.getstatic 28, 3) := by decide +kernel
theorem dX5_matchAll_23 : decode cX5_matchAll 23 = .ok (.iload_n 2, 1) := by decide +kernel
theorem dX5_matchAll_24 : decode cX5_matchAll 24 = .ok (.laload, 1) := by decide +kernel
theorem dX5_matchAll_25 : decode cX5_matchAll 25 = .ok (.lastore, 1) := by decide +kernel
theorem dX5_matchAll_26 : decode cX5_matchAll 26 = .ok (.iinc 2 1, 3) := by decide +kernel
theorem dX5_matchAll_29 : decode cX5_matchAll 29 = .ok (.goto (-27), 3) := by decide +kernel
theorem dX5_matchAll_32 : decode cX5_matchAll 32 = .ok (.aload_n 0, 1) := by decide +kernel
theorem dX5_matchAll_33 : decode cX5_matchAll 33 = .ok (.bipush 15, 2) := by decide +kernel
theorem dX5_matchAll_35 : decode cX5_matchAll 35 = .ok (.putfield 18, 3) := by decide +kernel
theorem dX5_matchAll_38 : decode cX5_matchAll 38 = .ok (.aload_n 0, 1) := by decide +kernel
theorem dX5_matchAll_39 : decode cX5_matchAll 39 = .ok (.iload_n 1, 1) := by decide +kernel
theorem dX5_matchAll_40 : decode cX5_matchAll 40 = .ok (.putfield 22, 3) := by decide +kernel
theorem dX5_matchAll_43 : decode cX5_matchAll 43 = .ok (.aload_n 0, 1) := by decide +kernel
theorem dX5_matchAll_44 : decode cX5_matchAll 44 = .ok (.iconst 0, 1) := by decide +kernel
theorem dX5_matchAll_45 : decode cX5_matchAll 45 = .ok (.putfield 25, 3) := by decide +kernel
theorem dX5_matchAll_48 : decode cX5_matchAll 48 = .ok (.return_, 1) := by decide +kernel
theorem e_X5_matchAll_2 {X : gk_X} {F : Nat} : ∀ (n : Nat) (l0 : Nat) (l1 : Int32) (l2 : Int32) (S : gk_S) (r : (Unit × gk_S)), f_X5_matchAll_2 F n l0 l1 l2 S = some r → EvW X m_X5_matchAll 1 0 0 2 [some (.ref l0), some (.int l1), some (.int l2)] [] S (qRU r) := by
  intro n
  induction n with
  | zero => intro l0 l1 l2 S r h0; rw [f_X5_matchAll_2] at h0; cases h0
  | succ n ih =>
    intro l0 l1 l2 S r h0; rw [f_X5_matchAll_2] at h0
    refine ev_iload_n (pc := 2) (i := 2) rfl rfl dX5_matchAll_2 ?_
    refine ev_bipush (pc := 3) (v := 6) (by decide) dX5_matchAll_3 ?_
    refine ev_ic_ge (pc := 5) (tgt := 32) (by decide) dX5_matchAll_5 (fun c1 => ?_) (fun c1 => ?_)
    · replace h0 := qi_t h0 c1
      refine ev_aload_n (pc := 32) (i := 0) rfl rfl rfl dX5_matchAll_32 ?_
      refine ev_bipush (pc := 33) (v := 15) (by decide) dX5_matchAll_33 ?_
      obtain ⟨g3, h4⟩ := qk_el h0; clear h0
      obtain ⟨S5, e6, h7⟩ := qv_el h4; clear h4
      refine yv_putI (pc := 35) fn_302 ⟨rfl, rfl⟩ (isb_el g3) e6 gw_70 dX5_matchAll_35 ?_
      refine ev_aload_n (pc := 38) (i := 0) rfl rfl rfl dX5_matchAll_38 ?_
      refine ev_iload_n (pc := 39) (i := 1) rfl rfl dX5_matchAll_39 ?_
      obtain ⟨S8, e9, h10⟩ := qv_el h7; clear h7
      refine yv_putI (pc := 40) fn_303 ⟨rfl, rfl⟩ (is_sI (isb_el g3) e6) e9 gw_72 dX5_matchAll_40 ?_
      refine ev_aload_n (pc := 43) (i := 0) rfl rfl rfl dX5_matchAll_43 ?_
      refine ev_iconst (pc := 44) (v := 0) (by decide) dX5_matchAll_44 ?_
      obtain ⟨S11, e12, h13⟩ := qv_el h10; clear h10
      refine yv_putI (pc := 45) fn_304 ⟨rfl, rfl⟩ (is_sI (is_sI (isb_el g3) e6) e9) e12 gw_76 dX5_matchAll_45 ?_
      exact ev_return (pc := 48) rfl (qRU_eq h13) dX5_matchAll_48
    · replace h0 := qi_f h0 c1
      refine ev_aload_n (pc := 8) (i := 0) rfl rfl rfl dX5_matchAll_8 ?_
      obtain ⟨g14, h15⟩ := qk_el h0; clear h0
      obtain ⟨b16, e17, h18⟩ := qP_el h15; clear h15
      refine xv_getP (pc := 9) fn_300 (isb_el g14) e17 gw_64 dX5_matchAll_9 ?_
      refine ev_iload_n (pc := 12) (i := 2) rfl rfl dX5_matchAll_12 ?_
      refine ev_lconst (pc := 13) (v := 0) (by decide) dX5_matchAll_13 ?_
      obtain ⟨g19, h20⟩ := qk_el h18; clear h18
      obtain ⟨g21, h22⟩ := qk_el h20; clear h20
      obtain ⟨S23, e24, h25⟩ := qv_el h22; clear h22
      refine yv_last (pc := 14) (isb_el g19) (inb_el g21) e24 dX5_matchAll_14 ?_
      refine ev_aload_n (pc := 15) (i := 0) rfl rfl rfl dX5_matchAll_15 ?_
      obtain ⟨b26, e27, h28⟩ := qP_el h25; clear h25
      refine xv_getP (pc := 16) fn_301 (is_wJ (isb_el g14) e24) e27 gw_67 dX5_matchAll_16 ?_
      refine ev_iload_n (pc := 19) (i := 2) rfl rfl dX5_matchAll_19 ?_
      refine ev_getsTN (pc := 20) (by decide +kernel) dX5_matchAll_20 ?_
      refine ev_iload_n (pc := 23) (i := 2) rfl rfl dX5_matchAll_23 ?_
      obtain ⟨g29, h30⟩ := qk_el h28; clear h28
      refine ev_caldT (pc := 24) (inb_el g29) dX5_matchAll_24 ?_
      obtain ⟨g31, h32⟩ := qk_el h30; clear h30
      obtain ⟨g33, h34⟩ := qk_el h32; clear h32
      obtain ⟨S35, e36, h37⟩ := qv_el h34; clear h34
      refine yv_last (pc := 25) (isb_el g31) (inb_el g33) e36 dX5_matchAll_25 ?_
      refine ev_iinc (pc := 26) (L' := [some (.ref l0), some (.int l1), some (.int (l2 + 1))]) (i := 2) (v := (l2 + 1)) rfl rfl (by decide) rfl rfl dX5_matchAll_26 ?_
      refine ev_goto (pc := 29) (tgt := 2) (by decide) dX5_matchAll_29 ?_
      exact (ev_weak (qL_s (qL_s (qL_s qL_nil))) (ih _ _ _ _ _ h37))
theorem e_X5_matchAll {X : gk_X} {F : Nat} {S : gk_S} {a : Nat} {p0 : Int32} {r : (Unit × gk_S)} (h0 : f_X5_matchAll F S a p0 = some r) : EvM X m_X5_matchAll 1 0 0 [.ref a, .int p0] S (qRU r) := by
  unfold f_X5_matchAll at h0
  refine ev_method (by decide +kernel) rfl rfl (Nat.le_of_ble_eq_true rfl) ?_
  show EvW X m_X5_matchAll 1 0 0 0 [some (.ref a), some (.int p0), none] [] S _
  refine ev_iconst (pc := 0) (v := 0) (by decide) dX5_matchAll_0 ?_
  refine ev_istore_n (pc := 1) (L' := [some (.ref a), some (.int p0), some (.int 0)]) (i := 2) rfl (by decide) rfl rfl dX5_matchAll_1 ?_
  exact ev_weak (qL_s (qL_s (qL_s qL_nil))) (e_X5_matchAll_2 F _ _ _ _ _ h0)
theorem dX9_takeRule_0 : decode cX9_takeRule 0 = .ok (.aload_n 0, 1) := by decide +kernel
theorem dX9_takeRule_1 : decode cX9_takeRule 1 = .ok (.getfield 22, 3) := by decide +kernel
theorem dX9_takeRule_4 : decode cX9_takeRule 4 = .ok (.sipush 256, 3) := by decide +kernel
theorem dX9_takeRule_7 : decode cX9_takeRule 7 = .ok (.if_icmp .ne 9, 3) := by decide +kernel
theorem dX9_takeRule_10 : decode cX9_takeRule 10 = .ok (.aload_n 0, 1) := by decide +kernel
theorem dX9_takeRule_11 : decode cX9_takeRule 11 = .ok (.iconst 0, 1) := by decide +kernel
theorem dX9_takeRule_12 : decode cX9_takeRule 12 = .ok (.invokevirtual 65, 3) := by decide +kernel
theorem dX9_takeRule_15 : decode cX9_takeRule 15 = .ok (.ireturn, 1) := by decide +kernel
theorem dX9_takeRule_16 : decode cX9_takeRule 16 = .ok (.aload_n 0, 1) := by decide +kernel
theorem dX9_takeRule_17 : decode cX9_takeRule 17 = .ok (.invokevirtual 102, 3) := by decide +kernel
theorem dX9_takeRule_20 : decode cX9_takeRule 20 = .ok (.istore_n 2, 1) := by decide +kernel
theorem dX9_takeRule_21 : decode cX9_takeRule 21 = .ok (.iload_n 2, 1) := by decide +kernel
theorem dX9_takeRule_22 : decode cX9_takeRule 22 = .ok (.iconst (-1), 1) := by decide +kernel
theorem dX9_takeRule_23 : decode cX9_takeRule 23 = .ok (.if_icmp .ne 5, 3) := by decide +kernel
theorem dX9_takeRule_26 : decode cX9_takeRule 26 = .ok (.iconst 2, 1) := by decide +kernel
theorem dX9_takeRule_27 : decode cX9_takeRule 27 = .ok (.ireturn, 1) := by decide +kernel
theorem dX9_takeRule_28 : decode cX9_takeRule 28 = .ok (.aload_n 1, 1) := by decide +kernel
theorem dX9_takeRule_29 : decode cX9_takeRule 29 = .ok (.getfield 75, 3) := by decide +kernel
theorem dX9_takeRule_32 : decode cX9_takeRule 32 = .ok (.bipush 16, 2) := by decide +kernel
theorem dX9_takeRule_34 : decode cX9_takeRule 34 = .ok (.if_icmp .lt 5, 3) := by decide +kernel
theorem dX9_takeRule_37 : decode cX9_takeRule 37 = .ok (.iconst 4, 1) := by decide +kernel
theorem dX9_takeRule_38 : decode cX9_takeRule 38 = .ok (.ireturn, 1) := by decide +kernel
theorem dX9_takeRule_39 : decode cX9_takeRule 39 = .ok (.aload_n 1, 1) := by decide +kernel
theorem dX9_takeRule_40 : decode cX9_takeRule 40 = .ok (.aload_n 1, 1) := by decide +kernel
theorem dX9_takeRule_41 : decode cX9_takeRule 41 = .ok (.getfield 75, 3) := by decide +kernel
theorem dX9_takeRule_44 : decode cX9_takeRule 44 = .ok (.invokevirtual 78, 3) := by decide +kernel
theorem dX9_takeRule_47 : decode cX9_takeRule 47 = .ok (.iload_n 2, 1) := by decide +kernel
theorem dX9_takeRule_48 : decode cX9_takeRule 48 = .ok (.invokevirtual 108, 3) := by decide +kernel
theorem dX9_takeRule_51 : decode cX9_takeRule 51 = .ok (.aload_n 0, 1) := by decide +kernel
theorem dX9_takeRule_52 : decode cX9_takeRule 52 = .ok (.iconst 0, 1) := by decide +kernel
theorem dX9_takeRule_53 : decode cX9_takeRule 53 = .ok (.putfield 38, 3) := by decide +kernel
theorem dX9_takeRule_56 : decode cX9_takeRule 56 = .ok (.aload_n 0, 1) := by decide +kernel
theorem dX9_takeRule_57 : decode cX9_takeRule 57 = .ok (.iconst 5, 1) := by decide +kernel
theorem dX9_takeRule_58 : decode cX9_takeRule 58 = .ok (.invokevirtual 65, 3) := by decide +kernel
theorem dX9_takeRule_61 : decode cX9_takeRule 61 = .ok (.ireturn, 1) := by decide +kernel
theorem e_X9_takeRule {X : gk_X} {F : Nat} {S : gk_S} {a : Nat} {p0 : Nat} {r : (Int32 × gk_S)} (h0 : f_X9_takeRule F S a p0 = some r) : EvM X m_X9_takeRule 7 0 0 [.ref a, .ref p0] S (qRI r) := by
  unfold f_X9_takeRule at h0
  refine ev_method (by decide +kernel) rfl rfl (Nat.le_of_ble_eq_true rfl) ?_
  show EvW X m_X9_takeRule 7 0 0 0 [some (.ref a), some (.ref p0), none] [] S _
  refine ev_aload_n (pc := 0) (i := 0) rfl rfl rfl dX9_takeRule_0 ?_
  obtain ⟨g1, h2⟩ := qk_el h0; clear h0
  obtain ⟨x3, e4, h5⟩ := qv_el h2; clear h2
  refine xv_getIv (pc := 1) fn_703 (isb_el g1) e4 gw_123 dX9_takeRule_1 ?_
  refine ev_sipush (pc := 4) (v := 256) (by decide) dX9_takeRule_4 ?_
  refine ev_ic_ne (pc := 7) (tgt := 16) (by decide) dX9_takeRule_7 (fun c6 => ?_) (fun c6 => ?_)
  · replace h5 := qi_f h5 c6
    refine ev_aload_n (pc := 16) (i := 0) rfl rfl rfl dX9_takeRule_16 ?_
    obtain ⟨x8, S9, e10, h11⟩ := qc_el h5; clear h5
    refine xv_callV (pc := 17) (st := []) (as := []) (v := (some (.int x8))) (S' := S9) ok_X9_actionHere (e_X9_actionHere e10) (isb_el g1) (by decide) rfl (Nat.le_of_ble_eq_true rfl) rfl gw_563 dX9_takeRule_17 ?_
    refine ev_istore_n (pc := 20) (L' := [some (.ref a), some (.ref p0), some (.int x8)]) (i := 2) rfl (by decide) rfl rfl dX9_takeRule_20 ?_
    refine ev_iload_n (pc := 21) (i := 2) rfl rfl dX9_takeRule_21 ?_
    refine ev_iconst (pc := 22) (v := -1) (by decide) dX9_takeRule_22 ?_
    refine ev_ic_ne (pc := 23) (tgt := 28) (by decide) dX9_takeRule_23 (fun c12 => ?_) (fun c12 => ?_)
    · replace h11 := qi_f h11 c12
      refine ev_aload_n (pc := 28) (i := 1) rfl rfl rfl dX9_takeRule_28 ?_
      obtain ⟨g14, h15⟩ := qk_el h11; clear h11
      obtain ⟨x16, e17, h18⟩ := qv_el h15; clear h15
      refine xv_getIv (pc := 29) fn_401 (isb_el g14) e17 gw_94 dX9_takeRule_29 ?_
      refine ev_bipush (pc := 32) (v := 16) (by decide) dX9_takeRule_32 ?_
      refine ev_ic_lt (pc := 34) (tgt := 39) (by decide) dX9_takeRule_34 (fun c19 => ?_) (fun c19 => ?_)
      · replace h18 := qi_t h18 c19
        refine ev_aload_n (pc := 39) (i := 1) rfl rfl rfl dX9_takeRule_39 ?_
        refine ev_aload_n (pc := 40) (i := 1) rfl rfl rfl dX9_takeRule_40 ?_
        obtain ⟨x21, e22, h23⟩ := qv_el h18; clear h18
        refine xv_getIv (pc := 41) fn_401 (isb_el g14) e22 gw_94 dX9_takeRule_41 ?_
        obtain ⟨x24, S25, e26, h27⟩ := qc_el h23; clear h23
        refine xv_callV (pc := 44) (st := []) (as := [.int x21]) (v := (some (.ref x24))) (S' := S25) ok_X6_at (e_X6_at e26) (isb_el g14) (by decide) rfl (Nat.le_of_ble_eq_true rfl) rfl gw_573 dX9_takeRule_44 ?_
        refine ev_iload_n (pc := 47) (i := 2) rfl rfl dX9_takeRule_47 ?_
        obtain ⟨g28, h29⟩ := qk_el h27; clear h27
        obtain ⟨x30, S31, e32, h33⟩ := qc_el h29; clear h29
        refine xv_callV (pc := 48) (st := []) (as := [.int x8]) (v := none) (S' := S31) ok_X5_matchAll (e_X5_matchAll e32) (isb_el g28) (by decide) rfl (Nat.le_of_ble_eq_true rfl) rfl gw_577 dX9_takeRule_48 ?_
        refine ev_aload_n (pc := 51) (i := 0) rfl rfl rfl dX9_takeRule_51 ?_
        refine ev_iconst (pc := 52) (v := 0) (by decide) dX9_takeRule_52 ?_
        obtain ⟨g34, h35⟩ := qk_el h33; clear h33
        obtain ⟨S36, e37, h38⟩ := qv_el h35; clear h35
        refine yv_putI (pc := 53) fn_708 ⟨rfl, rfl⟩ (isb_el g34) e37 gw_128 dX9_takeRule_53 ?_
        refine ev_aload_n (pc := 56) (i := 0) rfl rfl rfl dX9_takeRule_56 ?_
        refine ev_iconst (pc := 57) (v := 5) (by decide) dX9_takeRule_57 ?_
        obtain ⟨x39, S40, e41, h42⟩ := qc_el h38; clear h38
        refine xv_callV (pc := 58) (st := []) (as := [.int 5]) (v := (some (.int x39))) (S' := S40) ok_X9_go (e_X9_go e41) (is_sI (isb_el g34) e37) (by decide) rfl (Nat.le_of_ble_eq_true rfl) rfl gw_555 dX9_takeRule_58 ?_
        exact ev_ireturn (pc := 61) rfl (nar_int _) (qRI_eq h42) dX9_takeRule_61
      · replace h18 := qi_f h18 c19
        refine ev_iconst (pc := 37) (v := 4) (by decide) dX9_takeRule_37 ?_
        exact ev_ireturn (pc := 38) rfl (nar_int _) (qRI_eq h18) dX9_takeRule_38
    · replace h11 := qi_t h11 c12
      refine ev_iconst (pc := 26) (v := 2) (by decide) dX9_takeRule_26 ?_
      exact ev_ireturn (pc := 27) rfl (nar_int _) (qRI_eq h11) dX9_takeRule_27
  · replace h5 := qi_t h5 c6
    refine ev_aload_n (pc := 10) (i := 0) rfl rfl rfl dX9_takeRule_10 ?_
    refine ev_iconst (pc := 11) (v := 0) (by decide) dX9_takeRule_11 ?_
    obtain ⟨x43, S44, e45, h46⟩ := qc_el h5; clear h5
    refine xv_callV (pc := 12) (st := []) (as := [.int 0]) (v := (some (.int x43))) (S' := S44) ok_X9_go (e_X9_go e45) (isb_el g1) (by decide) rfl (Nat.le_of_ble_eq_true rfl) rfl gw_555 dX9_takeRule_12 ?_
    exact ev_ireturn (pc := 15) rfl (nar_int _) (qRI_eq h46) dX9_takeRule_15
theorem dX9_takePolicy_0 : decode cX9_takePolicy 0 = .ok (.aload_n 0, 1) := by decide +kernel
theorem dX9_takePolicy_1 : decode cX9_takePolicy 1 = .ok (.invokevirtual 102, 3) := by decide +kernel
theorem dX9_takePolicy_4 : decode cX9_takePolicy 4 = .ok (.istore_n 2, 1) := by decide +kernel
theorem dX9_takePolicy_5 : decode cX9_takePolicy 5 = .ok (.iload_n 2, 1) := by decide +kernel
theorem dX9_takePolicy_6 : decode cX9_takePolicy 6 = .ok (.iconst (-1), 1) := by decide +kernel
theorem dX9_takePolicy_7 : decode cX9_takePolicy 7 = .ok (.if_icmp .ne 5, 3) := by decide +kernel
theorem dX9_takePolicy_10 : decode cX9_takePolicy 10 = .ok (.iconst 2, 1) := by decide +kernel
theorem dX9_takePolicy_11 : decode cX9_takePolicy 11 = .ok (.ireturn, 1) := by decide +kernel
theorem dX9_takePolicy_12 : decode cX9_takePolicy 12 = .ok (.aload_n 1, 1) := by decide +kernel
theorem dX9_takePolicy_13 : decode cX9_takePolicy 13 = .ok (.iload_n 2, 1) := by decide +kernel
theorem dX9_takePolicy_14 : decode cX9_takePolicy 14 = .ok (.putfield 106, 3) := by decide +kernel
theorem dX9_takePolicy_17 : decode cX9_takePolicy 17 = .ok (.aload_n 0, 1) := by decide +kernel
theorem dX9_takePolicy_18 : decode cX9_takePolicy 18 = .ok (.iconst 3, 1) := by decide +kernel
theorem dX9_takePolicy_19 : decode cX9_takePolicy 19 = .ok (.invokevirtual 65, 3) := by decide +kernel
theorem dX9_takePolicy_22 : decode cX9_takePolicy 22 = .ok (.ireturn, 1) := by decide +kernel
theorem e_X9_takePolicy {X : gk_X} {F : Nat} {S : gk_S} {a : Nat} {p0 : Nat} {r : (Int32 × gk_S)} (h0 : f_X9_takePolicy F S a p0 = some r) : EvM X m_X9_takePolicy 7 0 0 [.ref a, .ref p0] S (qRI r) := by
  unfold f_X9_takePolicy at h0
  refine ev_method (by decide +kernel) rfl rfl (Nat.le_of_ble_eq_true rfl) ?_
  show EvW X m_X9_takePolicy 7 0 0 0 [some (.ref a), some (.ref p0), none] [] S _
  refine ev_aload_n (pc := 0) (i := 0) rfl rfl rfl dX9_takePolicy_0 ?_
  obtain ⟨g1, h2⟩ := qk_el h0; clear h0
  obtain ⟨x3, S4, e5, h6⟩ := qc_el h2; clear h2
  refine xv_callV (pc := 1) (st := []) (as := []) (v := (some (.int x3))) (S' := S4) ok_X9_actionHere (e_X9_actionHere e5) (isb_el g1) (by decide) rfl (Nat.le_of_ble_eq_true rfl) rfl gw_563 dX9_takePolicy_1 ?_
  refine ev_istore_n (pc := 4) (L' := [some (.ref a), some (.ref p0), some (.int x3)]) (i := 2) rfl (by decide) rfl rfl dX9_takePolicy_4 ?_
  refine ev_iload_n (pc := 5) (i := 2) rfl rfl dX9_takePolicy_5 ?_
  refine ev_iconst (pc := 6) (v := -1) (by decide) dX9_takePolicy_6 ?_
  refine ev_ic_ne (pc := 7) (tgt := 12) (by decide) dX9_takePolicy_7 (fun c7 => ?_) (fun c7 => ?_)
  · replace h6 := qi_f h6 c7
    refine ev_aload_n (pc := 12) (i := 1) rfl rfl rfl dX9_takePolicy_12 ?_
    refine ev_iload_n (pc := 13) (i := 2) rfl rfl dX9_takePolicy_13 ?_
    obtain ⟨g9, h10⟩ := qk_el h6; clear h6
    obtain ⟨S11, e12, h13⟩ := qv_el h10; clear h10
    refine yv_putI (pc := 14) fn_402 ⟨rfl, rfl⟩ (isb_el g9) e12 gw_99 dX9_takePolicy_14 ?_
    refine ev_aload_n (pc := 17) (i := 0) rfl rfl rfl dX9_takePolicy_17 ?_
    refine ev_iconst (pc := 18) (v := 3) (by decide) dX9_takePolicy_18 ?_
    obtain ⟨g14, h15⟩ := qk_el h13; clear h13
    obtain ⟨x16, S17, e18, h19⟩ := qc_el h15; clear h15
    refine xv_callV (pc := 19) (st := []) (as := [.int 3]) (v := (some (.int x16))) (S' := S17) ok_X9_go (e_X9_go e18) (isb_el g14) (by decide) rfl (Nat.le_of_ble_eq_true rfl) rfl gw_555 dX9_takePolicy_19 ?_
    exact ev_ireturn (pc := 22) rfl (nar_int _) (qRI_eq h19) dX9_takePolicy_22
  · replace h6 := qi_t h6 c7
    refine ev_iconst (pc := 10) (v := 2) (by decide) dX9_takePolicy_10 ?_
    exact ev_ireturn (pc := 11) rfl (nar_int _) (qRI_eq h6) dX9_takePolicy_11
theorem dX5_setRange_0 : decode cX5_setRange 0 = .ok (.iload_n 1, 1) := by decide +kernel
theorem dX5_setRange_1 : decode cX5_setRange 1 = .ok (.ifCond .lt 24, 3) := by decide +kernel
theorem dX5_setRange_4 : decode cX5_setRange 4 = .ok (.iload_n 1, 1) := by decide +kernel
theorem dX5_setRange_5 : decode cX5_setRange 5 = .ok (.bipush 6, 2) := by decide +kernel
theorem dX5_setRange_7 : decode cX5_setRange 7 = .ok (.if_icmp .ge 18, 3) := by decide +kernel
theorem dX5_setRange_10 : decode cX5_setRange 10 = .ok (.aload_n 0, 1) := by decide +kernel
theorem dX5_setRange_11 : decode cX5_setRange 11 = .ok (.getfield 9, 3) := by decide +kernel
theorem dX5_setRange_14 : decode cX5_setRange 14 = .ok (.iload_n 1, 1) := by decide +kernel
theorem dX5_setRange_15 : decode cX5_setRange 15 = .ok (.lload_n 2, 1) := by decide +kernel
theorem dX5_setRange_16 : decode cX5_setRange 16 = .ok (.lastore, 1) := by decide +kernel
theorem dX5_setRange_17 : decode cX5_setRange 17 = .ok (.aload_n 0, 1) := by decide +kernel
theorem dX5_setRange_18 : decode cX5_setRange 18 = .ok (.getfield 15, 3) := by decide +kernel
theorem dX5_setRange_21 : decode cX5_setRange 21 = .ok (.iload_n 1, 1) := by decide +kernel
theorem dX5_setRange_22 : decode cX5_setRange 22 = .ok (.lload 4, 2) := by decide +kernel
theorem dX5_setRange_24 : decode cX5_setRange 24 = .ok (.lastore, 1) := by decide +kernel
theorem dX5_setRange_25 : decode cX5_setRange 25 = .ok (.return_, 1) := by decide +kernel
theorem e_X5_setRange {X : gk_X} {F : Nat} {S : gk_S} {a : Nat} {p0 : Int32} {p1 : Int64} {p2 : Int64} {r : (Unit × gk_S)} (h0 : f_X5_setRange F S a p0 p1 p2 = some r) : EvM X m_X5_setRange 1 0 0 [.ref a, .int p0, .long p1, .long p2] S (qRU r) := by
  unfold f_X5_setRange at h0
  refine ev_method (by decide +kernel) rfl rfl (Nat.le_of_ble_eq_true rfl) ?_
  show EvW X m_X5_setRange 1 0 0 0 [some (.ref a), some (.int p0), some (.long p1), none, some (.long p2), none] [] S _
  refine ev_iload_n (pc := 0) (i := 1) rfl rfl dX5_setRange_0 ?_
  refine ev_if_lt (pc := 1) (tgt := 25) (by decide) dX5_setRange_1 (fun c1 => ?_) (fun c1 => ?_)
  · replace h0 := qi_t h0 c1
    exact ev_return (pc := 25) rfl (qRU_eq h0) dX5_setRange_25
  · replace h0 := qi_f h0 c1
    refine ev_iload_n (pc := 4) (i := 1) rfl rfl dX5_setRange_4 ?_
    refine ev_bipush (pc := 5) (v := 6) (by decide) dX5_setRange_5 ?_
    refine ev_ic_ge (pc := 7) (tgt := 25) (by decide) dX5_setRange_7 (fun c3 => ?_) (fun c3 => ?_)
    · replace h0 := qi_t h0 c3
      exact ev_return (pc := 25) rfl (qRU_eq h0) dX5_setRange_25
    · replace h0 := qi_f h0 c3
      refine ev_aload_n (pc := 10) (i := 0) rfl rfl rfl dX5_setRange_10 ?_
      obtain ⟨g5, h6⟩ := qk_el h0; clear h0
      obtain ⟨b7, e8, h9⟩ := qP_el h6; clear h6
      refine xv_getP (pc := 11) fn_300 (isb_el g5) e8 gw_64 dX5_setRange_11 ?_
      refine ev_iload_n (pc := 14) (i := 1) rfl rfl dX5_setRange_14 ?_
      refine ev_lload_n (pc := 15) (i := 2) rfl rfl dX5_setRange_15 ?_
      obtain ⟨g10, h11⟩ := qk_el h9; clear h9
      obtain ⟨g12, h13⟩ := qk_el h11; clear h11
      obtain ⟨S14, e15, h16⟩ := qv_el h13; clear h13
      refine yv_last (pc := 16) (isb_el g10) (inb_el g12) e15 dX5_setRange_16 ?_
      refine ev_aload_n (pc := 17) (i := 0) rfl rfl rfl dX5_setRange_17 ?_
      obtain ⟨b17, e18, h19⟩ := qP_el h16; clear h16
      refine xv_getP (pc := 18) fn_301 (is_wJ (isb_el g5) e15) e18 gw_67 dX5_setRange_18 ?_
      refine ev_iload_n (pc := 21) (i := 1) rfl rfl dX5_setRange_21 ?_
      refine ev_lload (pc := 22) (i := 4) rfl dX5_setRange_22 ?_
      obtain ⟨g20, h21⟩ := qk_el h19; clear h19
      obtain ⟨g22, h23⟩ := qk_el h21; clear h21
      obtain ⟨S24, e25, h26⟩ := qv_el h23; clear h23
      refine yv_last (pc := 24) (isb_el g20) (inb_el g22) e25 dX5_setRange_24 ?_
      exact ev_return (pc := 25) rfl (qRU_eq h26) dX5_setRange_25
theorem dX9_takeProtocol_0 : decode cX9_takeProtocol 0 = .ok (.aload_n 0, 1) := by decide +kernel
theorem dX9_takeProtocol_1 : decode cX9_takeProtocol 1 = .ok (.ldc 134, 2) := by decide +kernel
theorem dX9_takeProtocol_3 : decode cX9_takeProtocol 3 = .ok (.invokevirtual 61, 3) := by decide +kernel
theorem dX9_takeProtocol_6 : decode cX9_takeProtocol 6 = .ok (.ifCond .eq 8, 3) := by decide +kernel
theorem dX9_takeProtocol_9 : decode cX9_takeProtocol 9 = .ok (.bipush 6, 2) := by decide +kernel
theorem dX9_takeProtocol_11 : decode cX9_takeProtocol 11 = .ok (.goto 31, 3) := by decide +kernel
theorem dX9_takeProtocol_14 : decode cX9_takeProtocol 14 = .ok (.aload_n 0, 1) := by decide +kernel
theorem dX9_takeProtocol_15 : decode cX9_takeProtocol 15 = .ok (.ldc 136, 2) := by decide +kernel
theorem dX9_takeProtocol_17 : decode cX9_takeProtocol 17 = .ok (.invokevirtual 61, 3) := by decide +kernel
theorem dX9_takeProtocol_20 : decode cX9_takeProtocol 20 = .ok (.ifCond .eq 8, 3) := by decide +kernel
theorem dX9_takeProtocol_23 : decode cX9_takeProtocol 23 = .ok (.bipush 17, 2) := by decide +kernel
theorem dX9_takeProtocol_25 : decode cX9_takeProtocol 25 = .ok (.goto 17, 3) := by decide +kernel
theorem dX9_takeProtocol_28 : decode cX9_takeProtocol 28 = .ok (.aload_n 0, 1) := by decide +kernel
theorem dX9_takeProtocol_29 : decode cX9_takeProtocol 29 = .ok (.ldc 138, 2) := by decide +kernel
theorem dX9_takeProtocol_31 : decode cX9_takeProtocol 31 = .ok (.invokevirtual 61, 3) := by decide +kernel
theorem dX9_takeProtocol_34 : decode cX9_takeProtocol 34 = .ok (.ifCond .eq 7, 3) := by decide +kernel
theorem dX9_takeProtocol_37 : decode cX9_takeProtocol 37 = .ok (.iconst 1, 1) := by decide +kernel
theorem dX9_takeProtocol_38 : decode cX9_takeProtocol 38 = .ok (.goto 4, 3) := by decide +kernel
theorem dX9_takeProtocol_41 : decode cX9_takeProtocol 41 = .ok (.iconst (-1), 1) := by decide +kernel
theorem dX9_takeProtocol_42 : decode cX9_takeProtocol 42 = .ok (.istore_n 2, 1) := by decide +kernel
theorem dX9_takeProtocol_43 : decode cX9_takeProtocol 43 = .ok (.iload_n 2, 1) := by decide +kernel
theorem dX9_takeProtocol_44 : decode cX9_takeProtocol 44 = .ok (.iconst (-1), 1) := by decide +kernel
theorem dX9_takeProtocol_45 : decode cX9_takeProtocol 45 = .ok (.if_icmp .ne 5, 3) := by decide +kernel
theorem dX9_takeProtocol_48 : decode cX9_takeProtocol 48 = .ok (.iconst 2, 1) := by decide +kernel
theorem dX9_takeProtocol_49 : decode cX9_takeProtocol 49 = .ok (.ireturn, 1) := by decide +kernel
theorem dX9_takeProtocol_50 : decode cX9_takeProtocol 50 = .ok (.aload_n 1, 1) := by decide +kernel
theorem dX9_takeProtocol_51 : decode cX9_takeProtocol 51 = .ok (.iconst 1, 1) := by decide +kernel
theorem dX9_takeProtocol_52 : decode cX9_takeProtocol 52 = .ok (.iload_n 2, 1) := by decide +kernel
theorem dX9_takeProtocol_53 : decode cX9_takeProtocol 53 = .ok (.i2l, 1) := by decide +kernel
theorem dX9_takeProtocol_54 : decode cX9_takeProtocol 54 = .ok (.iload_n 2, 1) := by decide +kernel
theorem dX9_takeProtocol_55 : decode cX9_takeProtocol 55 = .ok (.i2l, 1) := by decide +kernel
theorem dX9_takeProtocol_56 : decode cX9_takeProtocol 56 = .ok (.invokevirtual 130, 3) := by decide +kernel
theorem dX9_takeProtocol_59 : decode cX9_takeProtocol 59 = .ok (.aload_n 0, 1) := by decide +kernel
theorem dX9_takeProtocol_60 : decode cX9_takeProtocol 60 = .ok (.iconst 5, 1) := by decide +kernel
theorem dX9_takeProtocol_61 : decode cX9_takeProtocol 61 = .ok (.invokevirtual 65, 3) := by decide +kernel
theorem dX9_takeProtocol_64 : decode cX9_takeProtocol 64 = .ok (.ireturn, 1) := by decide +kernel
theorem e_X9_takeProtocol_42 {X : gk_X} {F : Nat} {l0 : Nat} {l1 : Nat} {s0 : Int32} {S : gk_S} {r : (Int32 × gk_S)} (h0 : f_X9_takeProtocol_42 F l0 l1 s0 S = some r) : EvW X m_X9_takeProtocol 6 0 0 42 [some (.ref l0), some (.ref l1), none] [.int s0] S (qRI r) := by
  unfold f_X9_takeProtocol_42 at h0
  refine ev_istore_n (pc := 42) (L' := [some (.ref l0), some (.ref l1), some (.int s0)]) (i := 2) rfl (by decide) rfl rfl dX9_takeProtocol_42 ?_
  refine ev_iload_n (pc := 43) (i := 2) rfl rfl dX9_takeProtocol_43 ?_
  refine ev_iconst (pc := 44) (v := -1) (by decide) dX9_takeProtocol_44 ?_
  refine ev_ic_ne (pc := 45) (tgt := 50) (by decide) dX9_takeProtocol_45 (fun c25 => ?_) (fun c25 => ?_)
  · replace h0 := qi_f h0 c25
    refine ev_aload_n (pc := 50) (i := 1) rfl rfl rfl dX9_takeProtocol_50 ?_
    refine ev_iconst (pc := 51) (v := 1) (by decide) dX9_takeProtocol_51 ?_
    refine ev_iload_n (pc := 52) (i := 2) rfl rfl dX9_takeProtocol_52 ?_
    refine ev_i2l (pc := 53)  dX9_takeProtocol_53 ?_
    refine ev_iload_n (pc := 54) (i := 2) rfl rfl dX9_takeProtocol_54 ?_
    refine ev_i2l (pc := 55)  dX9_takeProtocol_55 ?_
    obtain ⟨g27, h28⟩ := qk_el h0; clear h0
    obtain ⟨x29, S30, e31, h32⟩ := qc_el h28; clear h28
    refine xv_callV (pc := 56) (st := []) (as := [.int 1, .long ((s0 : Int32).toInt64), .long ((s0 : Int32).toInt64)]) (v := none) (S' := S30) ok_X5_setRange (e_X5_setRange e31) (isb_el g27) (by decide) rfl (Nat.le_of_ble_eq_true rfl) rfl gw_598 dX9_takeProtocol_56 ?_
    refine ev_aload_n (pc := 59) (i := 0) rfl rfl rfl dX9_takeProtocol_59 ?_
    refine ev_iconst (pc := 60) (v := 5) (by decide) dX9_takeProtocol_60 ?_
    obtain ⟨g33, h34⟩ := qk_el h32; clear h32
    obtain ⟨x35, S36, e37, h38⟩ := qc_el h34; clear h34
    refine xv_callV (pc := 61) (st := []) (as := [.int 5]) (v := (some (.int x35))) (S' := S36) ok_X9_go (e_X9_go e37) (isb_el g33) (by decide) rfl (Nat.le_of_ble_eq_true rfl) rfl gw_555 dX9_takeProtocol_61 ?_
    exact ev_ireturn (pc := 64) rfl (nar_int _) (qRI_eq h38) dX9_takeProtocol_64
  · replace h0 := qi_t h0 c25
    refine ev_iconst (pc := 48) (v := 2) (by decide) dX9_takeProtocol_48 ?_
    exact ev_ireturn (pc := 49) rfl (nar_int _) (qRI_eq h0) dX9_takeProtocol_49
theorem e_X9_takeProtocol {X : gk_X} {F : Nat} {S : gk_S} {a : Nat} {p0 : Nat} {r : (Int32 × gk_S)} (h0 : f_X9_takeProtocol F S a p0 = some r) : EvM X m_X9_takeProtocol 6 0 0 [.ref a, .ref p0] S (qRI r) := by
  unfold f_X9_takeProtocol at h0
  refine ev_method (by decide +kernel) rfl rfl (Nat.le_of_ble_eq_true rfl) ?_
  show EvW X m_X9_takeProtocol 6 0 0 0 [some (.ref a), some (.ref p0), none] [] S _
  refine ev_aload_n (pc := 0) (i := 0) rfl rfl rfl dX9_takeProtocol_0 ?_
  refine ev_ldcS (pc := 1) (i := 5) (by decide) rfl rfl dX9_takeProtocol_1 ?_
  obtain ⟨g1, h2⟩ := qk_el h0; clear h0
  obtain ⟨x3, S4, e5, h6⟩ := qc_el h2; clear h2
  refine xv_callV (pc := 3) (st := []) (as := [.retAddr (10 + 5)]) (v := (some (.int x3))) (S' := S4) ok_X9_isWord (e_X9_isWord e5) (isb_el g1) (by decide) rfl (Nat.le_of_ble_eq_true rfl) rfl gw_503 dX9_takeProtocol_3 ?_
  refine ev_if_eq (pc := 6) (tgt := 14) (by decide) dX9_takeProtocol_6 (fun c7 => ?_) (fun c7 => ?_)
  · replace h6 := qi_t h6 c7
    refine ev_aload_n (pc := 14) (i := 0) rfl rfl rfl dX9_takeProtocol_14 ?_
    refine ev_ldcS (pc := 15) (i := 6) (by decide) rfl rfl dX9_takeProtocol_15 ?_
    obtain ⟨g9, h10⟩ := qk_el h6; clear h6
    obtain ⟨x11, S12, e13, h14⟩ := qc_el h10; clear h10
    refine xv_callV (pc := 17) (st := []) (as := [.retAddr (10 + 6)]) (v := (some (.int x11))) (S' := S12) ok_X9_isWord (e_X9_isWord e13) (isb_el g9) (by decide) rfl (Nat.le_of_ble_eq_true rfl) rfl gw_503 dX9_takeProtocol_17 ?_
    refine ev_if_eq (pc := 20) (tgt := 28) (by decide) dX9_takeProtocol_20 (fun c15 => ?_) (fun c15 => ?_)
    · replace h14 := qi_t h14 c15
      refine ev_aload_n (pc := 28) (i := 0) rfl rfl rfl dX9_takeProtocol_28 ?_
      refine ev_ldcS (pc := 29) (i := 7) (by decide) rfl rfl dX9_takeProtocol_29 ?_
      obtain ⟨g17, h18⟩ := qk_el h14; clear h14
      obtain ⟨x19, S20, e21, h22⟩ := qc_el h18; clear h18
      refine xv_callV (pc := 31) (st := []) (as := [.retAddr (10 + 7)]) (v := (some (.int x19))) (S' := S20) ok_X9_isWord (e_X9_isWord e21) (isb_el g17) (by decide) rfl (Nat.le_of_ble_eq_true rfl) rfl gw_503 dX9_takeProtocol_31 ?_
      refine ev_if_eq (pc := 34) (tgt := 41) (by decide) dX9_takeProtocol_34 (fun c23 => ?_) (fun c23 => ?_)
      · replace h22 := qi_t h22 c23
        refine ev_iconst (pc := 41) (v := -1) (by decide) dX9_takeProtocol_41 ?_
        exact ev_weak (qL_s (qL_s (qL_n qL_nil))) (e_X9_takeProtocol_42 h22)
      · replace h22 := qi_f h22 c23
        refine ev_iconst (pc := 37) (v := 1) (by decide) dX9_takeProtocol_37 ?_
        refine ev_goto (pc := 38) (tgt := 42) (by decide) dX9_takeProtocol_38 ?_
        exact ev_weak (qL_s (qL_s (qL_n qL_nil))) (e_X9_takeProtocol_42 h22)
    · replace h14 := qi_f h14 c15
      refine ev_bipush (pc := 23) (v := 17) (by decide) dX9_takeProtocol_23 ?_
      refine ev_goto (pc := 25) (tgt := 42) (by decide) dX9_takeProtocol_25 ?_
      exact ev_weak (qL_s (qL_s (qL_n qL_nil))) (e_X9_takeProtocol_42 h14)
  · replace h6 := qi_f h6 c7
    refine ev_bipush (pc := 9) (v := 6) (by decide) dX9_takeProtocol_9 ?_
    refine ev_goto (pc := 11) (tgt := 42) (by decide) dX9_takeProtocol_11 ?_
    exact ev_weak (qL_s (qL_s (qL_n qL_nil))) (e_X9_takeProtocol_42 h6)
theorem dX9_isAddressPart_0 : decode cX9_isAddressPart 0 = .ok (.aload_n 0, 1) := by decide +kernel
theorem dX9_isAddressPart_1 : decode cX9_isAddressPart 1 = .ok (.getfield 41, 3) := by decide +kernel
theorem dX9_isAddressPart_4 : decode cX9_isAddressPart 4 = .ok (.iconst 2, 1) := by decide +kernel
theorem dX9_isAddressPart_5 : decode cX9_isAddressPart 5 = .ok (.if_icmp .eq 11, 3) := by decide +kernel
theorem dX9_isAddressPart_8 : decode cX9_isAddressPart 8 = .ok (.aload_n 0, 1) := by decide +kernel
theorem dX9_isAddressPart_9 : decode cX9_isAddressPart 9 = .ok (.getfield 41, 3) := by decide +kernel
theorem dX9_isAddressPart_12 : decode cX9_isAddressPart 12 = .ok (.iconst 3, 1) := by decide +kernel
theorem dX9_isAddressPart_13 : decode cX9_isAddressPart 13 = .ok (.if_icmp .ne 7, 3) := by decide +kernel
theorem dX9_isAddressPart_16 : decode cX9_isAddressPart 16 = .ok (.iconst 1, 1) := by decide +kernel
theorem dX9_isAddressPart_17 : decode cX9_isAddressPart 17 = .ok (.goto 4, 3) := by decide +kernel
theorem dX9_isAddressPart_20 : decode cX9_isAddressPart 20 = .ok (.iconst 0, 1) := by decide +kernel
theorem dX9_isAddressPart_21 : decode cX9_isAddressPart 21 = .ok (.ireturn, 1) := by decide +kernel
theorem e_X9_isAddressPart {X : gk_X} {F : Nat} {S : gk_S} {a : Nat} {r : (Int32 × gk_S)} (h0 : f_X9_isAddressPart F S a = some r) : EvM X m_X9_isAddressPart 1 0 0 [.ref a] S (qRI r) := by
  unfold f_X9_isAddressPart at h0
  refine ev_method (by decide +kernel) rfl rfl (Nat.le_of_ble_eq_true rfl) ?_
  show EvW X m_X9_isAddressPart 1 0 0 0 [some (.ref a)] [] S _
  refine ev_aload_n (pc := 0) (i := 0) rfl rfl rfl dX9_isAddressPart_0 ?_
  obtain ⟨g1, h2⟩ := qk_el h0; clear h0
  obtain ⟨x3, e4, h5⟩ := qv_el h2; clear h2
  refine xv_getIv (pc := 1) fn_709 (isb_el g1) e4 gw_129 dX9_isAddressPart_1 ?_
  refine ev_iconst (pc := 4) (v := 2) (by decide) dX9_isAddressPart_4 ?_
  refine ev_ic_eq (pc := 5) (tgt := 16) (by decide) dX9_isAddressPart_5 (fun c6 => ?_) (fun c6 => ?_)
  · replace h5 := qi_t h5 c6
    refine ev_iconst (pc := 16) (v := 1) (by decide) dX9_isAddressPart_16 ?_
    refine ev_goto (pc := 17) (tgt := 21) (by decide) dX9_isAddressPart_17 ?_
    exact ev_ireturn (pc := 21) rfl rfl (qRI_eq h5) dX9_isAddressPart_21
  · replace h5 := qi_f h5 c6
    refine ev_aload_n (pc := 8) (i := 0) rfl rfl rfl dX9_isAddressPart_8 ?_
    obtain ⟨x8, e9, h10⟩ := qv_el h5; clear h5
    refine xv_getIv (pc := 9) fn_709 (isb_el g1) e9 gw_129 dX9_isAddressPart_9 ?_
    refine ev_iconst (pc := 12) (v := 3) (by decide) dX9_isAddressPart_12 ?_
    refine ev_ic_ne (pc := 13) (tgt := 20) (by decide) dX9_isAddressPart_13 (fun c11 => ?_) (fun c11 => ?_)
    · replace h10 := qi_f h10 c11
      refine ev_iconst (pc := 20) (v := 0) (by decide) dX9_isAddressPart_20 ?_
      exact ev_ireturn (pc := 21) rfl rfl (qRI_eq h10) dX9_isAddressPart_21
    · replace h10 := qi_t h10 c11
      refine ev_iconst (pc := 16) (v := 1) (by decide) dX9_isAddressPart_16 ?_
      refine ev_goto (pc := 17) (tgt := 21) (by decide) dX9_isAddressPart_17 ?_
      exact ev_ireturn (pc := 21) rfl rfl (qRI_eq h10) dX9_isAddressPart_21
theorem dX9_isValue_0 : decode cX9_isValue 0 = .ok (.aload_n 0, 1) := by decide +kernel
theorem dX9_isValue_1 : decode cX9_isValue 1 = .ok (.getfield 22, 3) := by decide +kernel
theorem dX9_isValue_4 : decode cX9_isValue 4 = .ok (.aload_n 0, 1) := by decide +kernel
theorem dX9_isValue_5 : decode cX9_isValue 5 = .ok (.invokevirtual 86, 3) := by decide +kernel
theorem dX9_isValue_8 : decode cX9_isValue 8 = .ok (.ifCond .eq 9, 3) := by decide +kernel
theorem dX9_isValue_11 : decode cX9_isValue 11 = .ok (.sipush 259, 3) := by decide +kernel
theorem dX9_isValue_14 : decode cX9_isValue 14 = .ok (.goto 6, 3) := by decide +kernel
theorem dX9_isValue_17 : decode cX9_isValue 17 = .ok (.sipush 258, 3) := by decide +kernel
theorem dX9_isValue_20 : decode cX9_isValue 20 = .ok (.if_icmp .ne 7, 3) := by decide +kernel
theorem dX9_isValue_23 : decode cX9_isValue 23 = .ok (.iconst 1, 1) := by decide +kernel
theorem dX9_isValue_24 : decode cX9_isValue 24 = .ok (.goto 4, 3) := by decide +kernel
theorem dX9_isValue_27 : decode cX9_isValue 27 = .ok (.iconst 0, 1) := by decide +kernel
theorem dX9_isValue_28 : decode cX9_isValue 28 = .ok (.ireturn, 1) := by decide +kernel
theorem e_X9_isValue {X : gk_X} {F : Nat} {S : gk_S} {a : Nat} {r : (Int32 × gk_S)} (h0 : f_X9_isValue F S a = some r) : EvM X m_X9_isValue 2 0 0 [.ref a] S (qRI r) := by
  unfold f_X9_isValue at h0
  refine ev_method (by decide +kernel) rfl rfl (Nat.le_of_ble_eq_true rfl) ?_
  show EvW X m_X9_isValue 2 0 0 0 [some (.ref a)] [] S _
  refine ev_aload_n (pc := 0) (i := 0) rfl rfl rfl dX9_isValue_0 ?_
  obtain ⟨g1, h2⟩ := qk_el h0; clear h0
  obtain ⟨x3, e4, h5⟩ := qv_el h2; clear h2
  refine xv_getIv (pc := 1) fn_703 (isb_el g1) e4 gw_123 dX9_isValue_1 ?_
  refine ev_aload_n (pc := 4) (i := 0) rfl rfl rfl dX9_isValue_4 ?_
  obtain ⟨x6, S7, e8, h9⟩ := qc_el h5; clear h5
  refine xv_callV (pc := 5) (st := [.int x3]) (as := []) (v := (some (.int x6))) (S' := S7) ok_X9_isAddressPart (e_X9_isAddressPart e8) (isb_el g1) (by decide) rfl (Nat.le_of_ble_eq_true rfl) rfl gw_606 dX9_isValue_5 ?_
  refine ev_if_eq (pc := 8) (tgt := 17) (by decide) dX9_isValue_8 (fun c10 => ?_) (fun c10 => ?_)
  · replace h9 := qi_t h9 c10
    refine ev_sipush (pc := 17) (v := 258) (by decide) dX9_isValue_17 ?_
    refine ev_ic_ne (pc := 20) (tgt := 27) (by decide) dX9_isValue_20 (fun c12 => ?_) (fun c12 => ?_)
    · replace h9 := qi_f h9 c12
      refine ev_iconst (pc := 27) (v := 0) (by decide) dX9_isValue_27 ?_
      exact ev_ireturn (pc := 28) rfl rfl (qRI_eq h9) dX9_isValue_28
    · replace h9 := qi_t h9 c12
      refine ev_iconst (pc := 23) (v := 1) (by decide) dX9_isValue_23 ?_
      refine ev_goto (pc := 24) (tgt := 28) (by decide) dX9_isValue_24 ?_
      exact ev_ireturn (pc := 28) rfl rfl (qRI_eq h9) dX9_isValue_28
  · replace h9 := qi_f h9 c10
    refine ev_sipush (pc := 11) (v := 259) (by decide) dX9_isValue_11 ?_
    refine ev_goto (pc := 14) (tgt := 20) (by decide) dX9_isValue_14 ?_
    refine ev_ic_ne (pc := 20) (tgt := 27) (by decide) dX9_isValue_20 (fun c14 => ?_) (fun c14 => ?_)
    · replace h9 := qi_f h9 c14
      refine ev_iconst (pc := 27) (v := 0) (by decide) dX9_isValue_27 ?_
      exact ev_ireturn (pc := 28) rfl rfl (qRI_eq h9) dX9_isValue_28
    · replace h9 := qi_t h9 c14
      refine ev_iconst (pc := 23) (v := 1) (by decide) dX9_isValue_23 ?_
      refine ev_goto (pc := 24) (tgt := 28) (by decide) dX9_isValue_24 ?_
      exact ev_ireturn (pc := 28) rfl rfl (qRI_eq h9) dX9_isValue_28
theorem dX9_top_0 : decode cX9_top 0 = .ok (.aload_n 0, 1) := by decide +kernel
theorem dX9_top_1 : decode cX9_top 1 = .ok (.getfield 41, 3) := by decide +kernel
theorem dX9_top_4 : decode cX9_top 4 = .ok (.ifCond .lt 23, 3) := by decide +kernel
theorem dX9_top_7 : decode cX9_top 7 = .ok (.aload_n 0, 1) := by decide +kernel
theorem dX9_top_8 : decode cX9_top 8 = .ok (.getfield 41, 3) := by decide +kernel
theorem dX9_top_11 : decode cX9_top 11 = .ok (.bipush 6, 2) := by decide +kernel
theorem dX9_top_13 : decode cX9_top 13 = .ok (.if_icmp .ge 14, 3) := by decide +kernel
theorem dX9_top_16 : decode cX9_top 16 = .ok (.getstatic 147, 3) := by decide +kernel
theorem dX9_top_19 : decode cX9_top 19 = .ok (.aload_n 0, 1) := by decide +kernel
theorem dX9_top_20 : decode cX9_top 20 = .ok (.getfield 41, 3) := by decide +kernel
theorem dX9_top_23 : decode cX9_top 23 = .ok (.laload, 1) := by decide +kernel
theorem dX9_top_24 : decode cX9_top 24 = .ok (.goto 4, 3) := by decide +kernel
theorem dX9_top_27 : decode cX9_top 27 = .ok (.lconst 0, 1) := by decide +kernel
theorem dX9_top_28 : decode cX9_top 28 = .ok (.lreturn, 1) := by decide +kernel
theorem e_X9_top {X : gk_X} {F : Nat} {S : gk_S} {a : Nat} {r : (Int64 × gk_S)} (h0 : f_X9_top F S a = some r) : EvM X m_X9_top 1 0 0 [.ref a] S (qRJ r) := by
  unfold f_X9_top at h0
  refine ev_method (by decide +kernel) rfl rfl (Nat.le_of_ble_eq_true rfl) ?_
  show EvW X m_X9_top 1 0 0 0 [some (.ref a)] [] S _
  refine ev_aload_n (pc := 0) (i := 0) rfl rfl rfl dX9_top_0 ?_
  obtain ⟨g1, h2⟩ := qk_el h0; clear h0
  obtain ⟨x3, e4, h5⟩ := qv_el h2; clear h2
  refine xv_getIv (pc := 1) fn_709 (isb_el g1) e4 gw_129 dX9_top_1 ?_
  refine ev_if_lt (pc := 4) (tgt := 27) (by decide) dX9_top_4 (fun c6 => ?_) (fun c6 => ?_)
  · replace h5 := qi_t h5 c6
    refine ev_lconst (pc := 27) (v := 0) (by decide) dX9_top_27 ?_
    exact ev_lreturn (pc := 28) rfl (qRJ_eq h5) dX9_top_28
  · replace h5 := qi_f h5 c6
    refine ev_aload_n (pc := 7) (i := 0) rfl rfl rfl dX9_top_7 ?_
    obtain ⟨x8, e9, h10⟩ := qv_el h5; clear h5
    refine xv_getIv (pc := 8) fn_709 (isb_el g1) e9 gw_129 dX9_top_8 ?_
    refine ev_bipush (pc := 11) (v := 6) (by decide) dX9_top_11 ?_
    refine ev_ic_ge (pc := 13) (tgt := 27) (by decide) dX9_top_13 (fun c11 => ?_) (fun c11 => ?_)
    · replace h10 := qi_t h10 c11
      refine ev_lconst (pc := 27) (v := 0) (by decide) dX9_top_27 ?_
      exact ev_lreturn (pc := 28) rfl (qRJ_eq h10) dX9_top_28
    · replace h10 := qi_f h10 c11
      refine ev_getsTN (pc := 16) (by decide +kernel) dX9_top_16 ?_
      refine ev_aload_n (pc := 19) (i := 0) rfl rfl rfl dX9_top_19 ?_
      obtain ⟨x13, e14, h15⟩ := qv_el h10; clear h10
      refine xv_getIv (pc := 20) fn_709 (isb_el g1) e14 gw_129 dX9_top_20 ?_
      obtain ⟨g16, h17⟩ := qk_el h15; clear h15
      refine ev_caldT (pc := 23) (inb_el g16) dX9_top_23 ?_
      refine ev_goto (pc := 24) (tgt := 28) (by decide) dX9_top_24 ?_
      exact ev_lreturn (pc := 28) rfl (qRJ_eq h17) dX9_top_28
theorem dX9_takeValue_0 : decode cX9_takeValue 0 = .ok (.aload_n 0, 1) := by decide +kernel
theorem dX9_takeValue_1 : decode cX9_takeValue 1 = .ok (.getfield 41, 3) := by decide +kernel
theorem dX9_takeValue_4 : decode cX9_takeValue 4 = .ok (.iconst 1, 1) := by decide +kernel
theorem dX9_takeValue_5 : decode cX9_takeValue 5 = .ok (.if_icmp .ne 19, 3) := by decide +kernel
theorem dX9_takeValue_8 : decode cX9_takeValue 8 = .ok (.aload_n 0, 1) := by decide +kernel
theorem dX9_takeValue_9 : decode cX9_takeValue 9 = .ok (.getfield 22, 3) := by decide +kernel
theorem dX9_takeValue_12 : decode cX9_takeValue 12 = .ok (.sipush 257, 3) := by decide +kernel
theorem dX9_takeValue_15 : decode cX9_takeValue 15 = .ok (.if_icmp .ne 9, 3) := by decide +kernel
theorem dX9_takeValue_18 : decode cX9_takeValue 18 = .ok (.aload_n 0, 1) := by decide +kernel
theorem dX9_takeValue_19 : decode cX9_takeValue 19 = .ok (.aload_n 1, 1) := by decide +kernel
theorem dX9_takeValue_20 : decode cX9_takeValue 20 = .ok (.invokevirtual 120, 3) := by decide +kernel
theorem dX9_takeValue_23 : decode cX9_takeValue 23 = .ok (.ireturn, 1) := by decide +kernel
theorem dX9_takeValue_24 : decode cX9_takeValue 24 = .ok (.aload_n 0, 1) := by decide +kernel
theorem dX9_takeValue_25 : decode cX9_takeValue 25 = .ok (.invokevirtual 123, 3) := by decide +kernel
theorem dX9_takeValue_28 : decode cX9_takeValue 28 = .ok (.ifCond .ne 5, 3) := by decide +kernel
theorem dX9_takeValue_31 : decode cX9_takeValue 31 = .ok (.iconst 2, 1) := by decide +kernel
theorem dX9_takeValue_32 : decode cX9_takeValue 32 = .ok (.ireturn, 1) := by decide +kernel
theorem dX9_takeValue_33 : decode cX9_takeValue 33 = .ok (.aload_n 0, 1) := by decide +kernel
theorem dX9_takeValue_34 : decode cX9_takeValue 34 = .ok (.getfield 31, 3) := by decide +kernel
theorem dX9_takeValue_37 : decode cX9_takeValue 37 = .ok (.aload_n 0, 1) := by decide +kernel
theorem dX9_takeValue_38 : decode cX9_takeValue 38 = .ok (.invokevirtual 126, 3) := by decide +kernel
theorem dX9_takeValue_41 : decode cX9_takeValue 41 = .ok (.lcmp, 1) := by decide +kernel
theorem dX9_takeValue_42 : decode cX9_takeValue 42 = .ok (.ifCond .le 5, 3) := by decide +kernel
theorem dX9_takeValue_45 : decode cX9_takeValue 45 = .ok (.iconst 3, 1) := by decide +kernel
theorem dX9_takeValue_46 : decode cX9_takeValue 46 = .ok (.ireturn, 1) := by decide +kernel
theorem dX9_takeValue_47 : decode cX9_takeValue 47 = .ok (.aload_n 0, 1) := by decide +kernel
theorem dX9_takeValue_48 : decode cX9_takeValue 48 = .ok (.aload_n 0, 1) := by decide +kernel
theorem dX9_takeValue_49 : decode cX9_takeValue 49 = .ok (.getfield 31, 3) := by decide +kernel
theorem dX9_takeValue_52 : decode cX9_takeValue 52 = .ok (.putfield 44, 3) := by decide +kernel
theorem dX9_takeValue_55 : decode cX9_takeValue 55 = .ok (.aload_n 1, 1) := by decide +kernel
theorem dX9_takeValue_56 : decode cX9_takeValue 56 = .ok (.aload_n 0, 1) := by decide +kernel
theorem dX9_takeValue_57 : decode cX9_takeValue 57 = .ok (.getfield 41, 3) := by decide +kernel
theorem dX9_takeValue_60 : decode cX9_takeValue 60 = .ok (.aload_n 0, 1) := by decide +kernel
theorem dX9_takeValue_61 : decode cX9_takeValue 61 = .ok (.getfield 31, 3) := by decide +kernel
theorem dX9_takeValue_64 : decode cX9_takeValue 64 = .ok (.aload_n 0, 1) := by decide +kernel
theorem dX9_takeValue_65 : decode cX9_takeValue 65 = .ok (.getfield 31, 3) := by decide +kernel
theorem dX9_takeValue_68 : decode cX9_takeValue 68 = .ok (.invokevirtual 130, 3) := by decide +kernel
theorem dX9_takeValue_71 : decode cX9_takeValue 71 = .ok (.aload_n 0, 1) := by decide +kernel
theorem dX9_takeValue_72 : decode cX9_takeValue 72 = .ok (.bipush 7, 2) := by decide +kernel
theorem dX9_takeValue_74 : decode cX9_takeValue 74 = .ok (.invokevirtual 65, 3) := by decide +kernel
theorem dX9_takeValue_77 : decode cX9_takeValue 77 = .ok (.ireturn, 1) := by decide +kernel
theorem e_X9_takeValue_24 {X : gk_X} {F : Nat} {l0 : Nat} {l1 : Nat} {S : gk_S} {r : (Int32 × gk_S)} (h0 : f_X9_takeValue_24 F l0 l1 S = some r) : EvW X m_X9_takeValue 7 0 0 24 [some (.ref l0), some (.ref l1)] [] S (qRI r) := by
  unfold f_X9_takeValue_24 at h0
  refine ev_aload_n (pc := 24) (i := 0) rfl rfl rfl dX9_takeValue_24 ?_
  obtain ⟨g8, h9⟩ := qk_el h0; clear h0
  obtain ⟨x10, S11, e12, h13⟩ := qc_el h9; clear h9
  refine xv_callV (pc := 25) (st := []) (as := []) (v := (some (.int x10))) (S' := S11) ok_X9_isValue (e_X9_isValue e12) (isb_el g8) (by decide) rfl (Nat.le_of_ble_eq_true rfl) rfl gw_602 dX9_takeValue_25 ?_
  refine ev_if_ne (pc := 28) (tgt := 33) (by decide) dX9_takeValue_28 (fun c14 => ?_) (fun c14 => ?_)
  · replace h13 := qi_f h13 c14
    refine ev_aload_n (pc := 33) (i := 0) rfl rfl rfl dX9_takeValue_33 ?_
    obtain ⟨g16, h17⟩ := qk_el h13; clear h13
    obtain ⟨x18, e19, h20⟩ := qv_el h17; clear h17
    refine xv_getJv (pc := 34) fn_706 (isb_el g16) e19 gw_126 dX9_takeValue_34 ?_
    refine ev_aload_n (pc := 37) (i := 0) rfl rfl rfl dX9_takeValue_37 ?_
    obtain ⟨x21, S22, e23, h24⟩ := qc_el h20; clear h20
    refine xv_callV (pc := 38) (st := [.long x18]) (as := []) (v := (some (.long x21))) (S' := S22) ok_X9_top (e_X9_top e23) (isb_el g16) (by decide) rfl (Nat.le_of_ble_eq_true rfl) rfl gw_610 dX9_takeValue_38 ?_
    refine ev_lcmp (pc := 41)  dX9_takeValue_41 ?_
    refine ev_if_le (pc := 42) (tgt := 47) (by decide) dX9_takeValue_42 (fun c25 => ?_) (fun c25 => ?_)
    · replace h24 := qi_t h24 (lc_le c25)
      refine ev_aload_n (pc := 47) (i := 0) rfl rfl rfl dX9_takeValue_47 ?_
      refine ev_aload_n (pc := 48) (i := 0) rfl rfl rfl dX9_takeValue_48 ?_
      obtain ⟨g27, h28⟩ := qk_el h24; clear h24
      obtain ⟨x29, e30, h31⟩ := qv_el h28; clear h28
      refine xv_getJv (pc := 49) fn_706 (isb_el g27) e30 gw_126 dX9_takeValue_49 ?_
      obtain ⟨S32, e33, h34⟩ := qv_el h31; clear h31
      refine yv_putJ (pc := 52) fn_710 (isb_el g27) e33 gw_130 dX9_takeValue_52 ?_
      refine ev_aload_n (pc := 55) (i := 1) rfl rfl rfl dX9_takeValue_55 ?_
      refine ev_aload_n (pc := 56) (i := 0) rfl rfl rfl dX9_takeValue_56 ?_
      obtain ⟨x35, e36, h37⟩ := qv_el h34; clear h34
      refine xv_getIv (pc := 57) fn_709 (is_sJ (isb_el g27) e33) e36 gw_129 dX9_takeValue_57 ?_
      refine ev_aload_n (pc := 60) (i := 0) rfl rfl rfl dX9_takeValue_60 ?_
      obtain ⟨x38, e39, h40⟩ := qv_el h37; clear h37
      refine xv_getJv (pc := 61) fn_706 (is_sJ (isb_el g27) e33) e39 gw_126 dX9_takeValue_61 ?_
      refine ev_aload_n (pc := 64) (i := 0) rfl rfl rfl dX9_takeValue_64 ?_
      obtain ⟨x41, e42, h43⟩ := qv_el h40; clear h40
      refine xv_getJv (pc := 65) fn_706 (is_sJ (isb_el g27) e33) e42 gw_126 dX9_takeValue_65 ?_
      obtain ⟨g44, h45⟩ := qk_el h43; clear h43
      obtain ⟨x46, S47, e48, h49⟩ := qc_el h45; clear h45
      refine xv_callV (pc := 68) (st := []) (as := [.int x35, .long x38, .long x41]) (v := none) (S' := S47) ok_X5_setRange (e_X5_setRange e48) (isb_el g44) (by decide) rfl (Nat.le_of_ble_eq_true rfl) rfl gw_598 dX9_takeValue_68 ?_
      refine ev_aload_n (pc := 71) (i := 0) rfl rfl rfl dX9_takeValue_71 ?_
      refine ev_bipush (pc := 72) (v := 7) (by decide) dX9_takeValue_72 ?_
      obtain ⟨g50, h51⟩ := qk_el h49; clear h49
      obtain ⟨x52, S53, e54, h55⟩ := qc_el h51; clear h51
      refine xv_callV (pc := 74) (st := []) (as := [.int 7]) (v := (some (.int x52))) (S' := S53) ok_X9_go (e_X9_go e54) (isb_el g50) (by decide) rfl (Nat.le_of_ble_eq_true rfl) rfl gw_555 dX9_takeValue_74 ?_
      exact ev_ireturn (pc := 77) rfl (nar_int _) (qRI_eq h55) dX9_takeValue_77
    · replace h24 := qi_f h24 (lc_leN c25)
      refine ev_iconst (pc := 45) (v := 3) (by decide) dX9_takeValue_45 ?_
      exact ev_ireturn (pc := 46) rfl (nar_int _) (qRI_eq h24) dX9_takeValue_46
  · replace h13 := qi_t h13 c14
    refine ev_iconst (pc := 31) (v := 2) (by decide) dX9_takeValue_31 ?_
    exact ev_ireturn (pc := 32) rfl (nar_int _) (qRI_eq h13) dX9_takeValue_32
theorem e_X9_takeValue {X : gk_X} {F : Nat} {S : gk_S} {a : Nat} {p0 : Nat} {r : (Int32 × gk_S)} (h0 : f_X9_takeValue F S a p0 = some r) : EvM X m_X9_takeValue 7 0 0 [.ref a, .ref p0] S (qRI r) := by
  unfold f_X9_takeValue at h0
  refine ev_method (by decide +kernel) rfl rfl (Nat.le_of_ble_eq_true rfl) ?_
  show EvW X m_X9_takeValue 7 0 0 0 [some (.ref a), some (.ref p0)] [] S _
  refine ev_aload_n (pc := 0) (i := 0) rfl rfl rfl dX9_takeValue_0 ?_
  obtain ⟨g1, h2⟩ := qk_el h0; clear h0
  obtain ⟨x3, e4, h5⟩ := qv_el h2; clear h2
  refine xv_getIv (pc := 1) fn_709 (isb_el g1) e4 gw_129 dX9_takeValue_1 ?_
  refine ev_iconst (pc := 4) (v := 1) (by decide) dX9_takeValue_4 ?_
  refine ev_ic_ne (pc := 5) (tgt := 24) (by decide) dX9_takeValue_5 (fun c6 => ?_) (fun c6 => ?_)
  · replace h5 := qi_f h5 c6
    exact ev_weak (qL_s (qL_s qL_nil)) (e_X9_takeValue_24 h5)
  · replace h5 := qi_t h5 c6
    refine ev_aload_n (pc := 8) (i := 0) rfl rfl rfl dX9_takeValue_8 ?_
    obtain ⟨x56, e57, h58⟩ := qv_el h5; clear h5
    refine xv_getIv (pc := 9) fn_703 (isb_el g1) e57 gw_123 dX9_takeValue_9 ?_
    refine ev_sipush (pc := 12) (v := 257) (by decide) dX9_takeValue_12 ?_
    refine ev_ic_ne (pc := 15) (tgt := 24) (by decide) dX9_takeValue_15 (fun c59 => ?_) (fun c59 => ?_)
    · replace h58 := qi_f h58 c59
      exact ev_weak (qL_s (qL_s qL_nil)) (e_X9_takeValue_24 h58)
    · replace h58 := qi_t h58 c59
      refine ev_aload_n (pc := 18) (i := 0) rfl rfl rfl dX9_takeValue_18 ?_
      refine ev_aload_n (pc := 19) (i := 1) rfl rfl rfl dX9_takeValue_19 ?_
      obtain ⟨x61, S62, e63, h64⟩ := qc_el h58; clear h58
      refine xv_callV (pc := 20) (st := []) (as := [.ref p0]) (v := (some (.int x61))) (S' := S62) ok_X9_takeProtocol (e_X9_takeProtocol e63) (isb_el g1) (by decide) rfl (Nat.le_of_ble_eq_true rfl) rfl gw_591 dX9_takeValue_20 ?_
      exact ev_ireturn (pc := 23) rfl (nar_int _) (qRI_eq h64) dX9_takeValue_23
theorem dX11_partWord_0 : decode cX11_partWord 0 = .ok (.iload_n 0, 1) := by decide +kernel
theorem dX11_partWord_1 : decode cX11_partWord 1 = .ok (.tableswitch 63 0 5 #[39, 43, 47, 51, 55, 59], 39) := by decide +kernel
theorem dX11_partWord_40 : decode cX11_partWord 40 = .ok (.ldc_w 292, 3) := by decide +kernel
theorem dX11_partWord_43 : decode cX11_partWord 43 = .ok (.areturn, 1) := by decide +kernel
theorem dX11_partWord_44 : decode cX11_partWord 44 = .ok (.ldc_w 294, 3) := by decide +kernel
theorem dX11_partWord_47 : decode cX11_partWord 47 = .ok (.areturn, 1) := by decide +kernel
theorem dX11_partWord_48 : decode cX11_partWord 48 = .ok (.ldc_w 296, 3) := by decide +kernel
theorem dX11_partWord_51 : decode cX11_partWord 51 = .ok (.areturn, 1) := by decide +kernel
theorem dX11_partWord_52 : decode cX11_partWord 52 = .ok (.ldc_w 298, 3) := by decide +kernel
theorem dX11_partWord_55 : decode cX11_partWord 55 = .ok (.areturn, 1) := by decide +kernel
theorem dX11_partWord_56 : decode cX11_partWord 56 = .ok (.ldc_w 300, 3) := by decide +kernel
theorem dX11_partWord_59 : decode cX11_partWord 59 = .ok (.areturn, 1) := by decide +kernel
theorem dX11_partWord_60 : decode cX11_partWord 60 = .ok (.ldc_w 302, 3) := by decide +kernel
theorem dX11_partWord_63 : decode cX11_partWord 63 = .ok (.areturn, 1) := by decide +kernel
theorem dX11_partWord_64 : decode cX11_partWord 64 = .ok (.ldc_w 304, 3) := by decide +kernel
theorem dX11_partWord_67 : decode cX11_partWord 67 = .ok (.areturn, 1) := by decide +kernel
theorem e_X11_partWord {X : gk_X} {F : Nat} {S : gk_S} {p0 : Int32} {r : (Nat × gk_S)} (h0 : f_X11_partWord F S p0 = some r) : EvM X m_X11_partWord 1 0 0 [.int p0] S (qRT r) := by
  unfold f_X11_partWord at h0
  refine ev_method (by decide +kernel) rfl rfl (Nat.le_of_ble_eq_true rfl) ?_
  show EvW X m_X11_partWord 1 0 0 0 [some (.int p0)] [] S _
  refine ev_iload_n (pc := 0) (i := 0) rfl rfl dX11_partWord_0 ?_
  by_cases c1 : p0 = 0
  · refine ev_tableIn (pc := 1) (off := 39) (tgt := 40) (by rw [c1]; decide) (by rw [c1]; decide) (by rw [c1]; rfl) (by decide) dX11_partWord_1 ?_
    replace h0 := qi_t h0 c1
    refine ev_ldcSW (pc := 40) (i := 8) (by decide) rfl rfl dX11_partWord_40 ?_
    exact ev_areturn (pc := 43) rfl (by first | exact .inl ⟨_, rfl⟩ | exact .inr ⟨_, rfl⟩) rfl (qRT_eq h0) dX11_partWord_43
  replace h0 := qi_f h0 c1
  by_cases c2 : p0 = 1
  · refine ev_tableIn (pc := 1) (off := 43) (tgt := 44) (by rw [c2]; decide) (by rw [c2]; decide) (by rw [c2]; rfl) (by decide) dX11_partWord_1 ?_
    replace h0 := qi_t h0 c2
    refine ev_ldcSW (pc := 44) (i := 9) (by decide) rfl rfl dX11_partWord_44 ?_
    exact ev_areturn (pc := 47) rfl (by first | exact .inl ⟨_, rfl⟩ | exact .inr ⟨_, rfl⟩) rfl (qRT_eq h0) dX11_partWord_47
  replace h0 := qi_f h0 c2
  by_cases c3 : p0 = 2
  · refine ev_tableIn (pc := 1) (off := 47) (tgt := 48) (by rw [c3]; decide) (by rw [c3]; decide) (by rw [c3]; rfl) (by decide) dX11_partWord_1 ?_
    replace h0 := qi_t h0 c3
    refine ev_ldcSW (pc := 48) (i := 10) (by decide) rfl rfl dX11_partWord_48 ?_
    exact ev_areturn (pc := 51) rfl (by first | exact .inl ⟨_, rfl⟩ | exact .inr ⟨_, rfl⟩) rfl (qRT_eq h0) dX11_partWord_51
  replace h0 := qi_f h0 c3
  by_cases c4 : p0 = 3
  · refine ev_tableIn (pc := 1) (off := 51) (tgt := 52) (by rw [c4]; decide) (by rw [c4]; decide) (by rw [c4]; rfl) (by decide) dX11_partWord_1 ?_
    replace h0 := qi_t h0 c4
    refine ev_ldcSW (pc := 52) (i := 11) (by decide) rfl rfl dX11_partWord_52 ?_
    exact ev_areturn (pc := 55) rfl (by first | exact .inl ⟨_, rfl⟩ | exact .inr ⟨_, rfl⟩) rfl (qRT_eq h0) dX11_partWord_55
  replace h0 := qi_f h0 c4
  by_cases c5 : p0 = 4
  · refine ev_tableIn (pc := 1) (off := 55) (tgt := 56) (by rw [c5]; decide) (by rw [c5]; decide) (by rw [c5]; rfl) (by decide) dX11_partWord_1 ?_
    replace h0 := qi_t h0 c5
    refine ev_ldcSW (pc := 56) (i := 12) (by decide) rfl rfl dX11_partWord_56 ?_
    exact ev_areturn (pc := 59) rfl (by first | exact .inl ⟨_, rfl⟩ | exact .inr ⟨_, rfl⟩) rfl (qRT_eq h0) dX11_partWord_59
  replace h0 := qi_f h0 c5
  by_cases c6 : p0 = 5
  · refine ev_tableIn (pc := 1) (off := 59) (tgt := 60) (by rw [c6]; decide) (by rw [c6]; decide) (by rw [c6]; rfl) (by decide) dX11_partWord_1 ?_
    replace h0 := qi_t h0 c6
    refine ev_ldcSW (pc := 60) (i := 13) (by decide) rfl rfl dX11_partWord_60 ?_
    exact ev_areturn (pc := 63) rfl (by first | exact .inl ⟨_, rfl⟩ | exact .inr ⟨_, rfl⟩) rfl (qRT_eq h0) dX11_partWord_63
  replace h0 := qi_f h0 c6
  refine ev_tableOut (pc := 1) (tgt := 64) (by have z0 := ti_ne c1 (n := 0) rfl; have z1 := ti_ne c2 (n := 1) rfl; have z2 := ti_ne c3 (n := 2) rfl; have z3 := ti_ne c4 (n := 3) rfl; have z4 := ti_ne c5 (n := 4) rfl; have z5 := ti_ne c6 (n := 5) rfl; omega) (by decide) dX11_partWord_1 ?_
  refine ev_ldcSW (pc := 64) (i := 14) (by decide) rfl rfl dX11_partWord_64 ?_
  exact ev_areturn (pc := 67) rfl (by first | exact .inl ⟨_, rfl⟩ | exact .inr ⟨_, rfl⟩) rfl (qRT_eq h0) dX11_partWord_67
theorem dX9_partHere_0 : decode cX9_partHere 0 = .ok (.iconst 0, 1) := by decide +kernel
theorem dX9_partHere_1 : decode cX9_partHere 1 = .ok (.istore_n 1, 1) := by decide +kernel
theorem dX9_partHere_2 : decode cX9_partHere 2 = .ok (.iload_n 1, 1) := by decide +kernel
theorem dX9_partHere_3 : decode cX9_partHere 3 = .ok (.bipush 7, 2) := by decide +kernel
theorem dX9_partHere_5 : decode cX9_partHere 5 = .ok (.if_icmp .ge 22, 3) := by decide +kernel
theorem dX9_partHere_8 : decode cX9_partHere 8 = .ok (.aload_n 0, 1) := by decide +kernel
theorem dX9_partHere_9 : decode cX9_partHere 9 = .ok (.iload_n 1, 1) := by decide +kernel
theorem dX9_partHere_10 : decode cX9_partHere 10 = .ok (.invokestatic 155, 3) := by decide +kernel
theorem dX9_partHere_13 : decode cX9_partHere 13 = .ok (.invokevirtual 61, 3) := by decide +kernel
theorem dX9_partHere_16 : decode cX9_partHere 16 = .ok (.ifCond .eq 5, 3) := by decide +kernel
theorem dX9_partHere_19 : decode cX9_partHere 19 = .ok (.iload_n 1, 1) := by decide +kernel
theorem dX9_partHere_20 : decode cX9_partHere 20 = .ok (.ireturn, 1) := by decide +kernel
theorem dX9_partHere_21 : decode cX9_partHere 21 = .ok (.iinc 1 1, 3) := by decide +kernel
theorem dX9_partHere_24 : decode cX9_partHere 24 = .ok (.goto (-22), 3) := by decide +kernel
theorem dX9_partHere_27 : decode cX9_partHere 27 = .ok (.iconst (-1), 1) := by decide +kernel
theorem dX9_partHere_28 : decode cX9_partHere 28 = .ok (.ireturn, 1) := by decide +kernel
theorem e_X9_partHere_2 {X : gk_X} {F : Nat} : ∀ (n : Nat) (l0 : Nat) (l1 : Int32) (S : gk_S) (r : (Int32 × gk_S)), f_X9_partHere_2 F n l0 l1 S = some r → EvW X m_X9_partHere 6 0 0 2 [some (.ref l0), some (.int l1)] [] S (qRI r) := by
  intro n
  induction n with
  | zero => intro l0 l1 S r h0; rw [f_X9_partHere_2] at h0; cases h0
  | succ n ih =>
    intro l0 l1 S r h0; rw [f_X9_partHere_2] at h0
    refine ev_iload_n (pc := 2) (i := 1) rfl rfl dX9_partHere_2 ?_
    refine ev_bipush (pc := 3) (v := 7) (by decide) dX9_partHere_3 ?_
    refine ev_ic_ge (pc := 5) (tgt := 27) (by decide) dX9_partHere_5 (fun c1 => ?_) (fun c1 => ?_)
    · replace h0 := qi_t h0 c1
      refine ev_iconst (pc := 27) (v := -1) (by decide) dX9_partHere_27 ?_
      exact ev_ireturn (pc := 28) rfl (nar_int _) (qRI_eq h0) dX9_partHere_28
    · replace h0 := qi_f h0 c1
      refine ev_aload_n (pc := 8) (i := 0) rfl rfl rfl dX9_partHere_8 ?_
      refine ev_iload_n (pc := 9) (i := 1) rfl rfl dX9_partHere_9 ?_
      obtain ⟨x3, S4, e5, h6⟩ := qc_el h0; clear h0
      refine xv_callSN (pc := 10) (st := [.ref l0]) (as := [.int l1]) (v := (some (.retAddr (10 + x3)))) (S' := S4) (host := "GateHouse") ok_X11_partWord (e_X11_partWord e5) (by decide) rfl (Nat.le_of_ble_eq_true rfl) rfl (by decide +kernel) dX9_partHere_10 ?_
      obtain ⟨g7, h8⟩ := qk_el h6; clear h6
      obtain ⟨x9, S10, e11, h12⟩ := qc_el h8; clear h8
      refine xv_callV (pc := 13) (st := []) (as := [.retAddr (10 + x3)]) (v := (some (.int x9))) (S' := S10) ok_X9_isWord (e_X9_isWord e11) (isb_el g7) (by decide) rfl (Nat.le_of_ble_eq_true rfl) rfl gw_503 dX9_partHere_13 ?_
      refine ev_if_eq (pc := 16) (tgt := 21) (by decide) dX9_partHere_16 (fun c13 => ?_) (fun c13 => ?_)
      · replace h12 := qi_t h12 c13
        refine ev_iinc (pc := 21) (L' := [some (.ref l0), some (.int (l1 + 1))]) (i := 1) (v := (l1 + 1)) rfl rfl (by decide) rfl rfl dX9_partHere_21 ?_
        refine ev_goto (pc := 24) (tgt := 2) (by decide) dX9_partHere_24 ?_
        exact (ev_weak (qL_s (qL_s qL_nil)) (ih _ _ _ _ h12))
      · replace h12 := qi_f h12 c13
        refine ev_iload_n (pc := 19) (i := 1) rfl rfl dX9_partHere_19 ?_
        exact ev_ireturn (pc := 20) rfl (nar_int _) (qRI_eq h12) dX9_partHere_20
theorem e_X9_partHere {X : gk_X} {F : Nat} {S : gk_S} {a : Nat} {r : (Int32 × gk_S)} (h0 : f_X9_partHere F S a = some r) : EvM X m_X9_partHere 6 0 0 [.ref a] S (qRI r) := by
  unfold f_X9_partHere at h0
  refine ev_method (by decide +kernel) rfl rfl (Nat.le_of_ble_eq_true rfl) ?_
  show EvW X m_X9_partHere 6 0 0 0 [some (.ref a), none] [] S _
  refine ev_iconst (pc := 0) (v := 0) (by decide) dX9_partHere_0 ?_
  refine ev_istore_n (pc := 1) (L' := [some (.ref a), some (.int 0)]) (i := 1) rfl (by decide) rfl rfl dX9_partHere_1 ?_
  exact ev_weak (qL_s (qL_s qL_nil)) (e_X9_partHere_2 F _ _ _ _ h0)
theorem dX9_takePart_0 : decode cX9_takePart 0 = .ok (.aload_n 0, 1) := by decide +kernel
theorem dX9_takePart_1 : decode cX9_takePart 1 = .ok (.getfield 22, 3) := by decide +kernel
theorem dX9_takePart_4 : decode cX9_takePart 4 = .ok (.bipush 59, 2) := by decide +kernel
theorem dX9_takePart_6 : decode cX9_takePart 6 = .ok (.if_icmp .ne 19, 3) := by decide +kernel
theorem dX9_takePart_9 : decode cX9_takePart 9 = .ok (.aload_n 1, 1) := by decide +kernel
theorem dX9_takePart_10 : decode cX9_takePart 10 = .ok (.dup, 1) := by decide +kernel
theorem dX9_takePart_11 : decode cX9_takePart 11 = .ok (.getfield 75, 3) := by decide +kernel
theorem dX9_takePart_14 : decode cX9_takePart 14 = .ok (.iconst 1, 1) := by decide +kernel
theorem dX9_takePart_15 : decode cX9_takePart 15 = .ok (.iadd, 1) := by decide +kernel
theorem dX9_takePart_16 : decode cX9_takePart 16 = .ok (.putfield 75, 3) := by decide +kernel
theorem dX9_takePart_19 : decode cX9_takePart 19 = .ok (.aload_n 0, 1) := by decide +kernel
theorem dX9_takePart_20 : decode cX9_takePart 20 = .ok (.iconst 4, 1) := by decide +kernel
theorem dX9_takePart_21 : decode cX9_takePart 21 = .ok (.invokevirtual 65, 3) := by decide +kernel
theorem dX9_takePart_24 : decode cX9_takePart 24 = .ok (.ireturn, 1) := by decide +kernel
theorem dX9_takePart_25 : decode cX9_takePart 25 = .ok (.aload_n 0, 1) := by decide +kernel
theorem dX9_takePart_26 : decode cX9_takePart 26 = .ok (.aload_n 0, 1) := by decide +kernel
theorem dX9_takePart_27 : decode cX9_takePart 27 = .ok (.invokevirtual 114, 3) := by decide +kernel
theorem dX9_takePart_30 : decode cX9_takePart 30 = .ok (.putfield 41, 3) := by decide +kernel
theorem dX9_takePart_33 : decode cX9_takePart 33 = .ok (.aload_n 0, 1) := by decide +kernel
theorem dX9_takePart_34 : decode cX9_takePart 34 = .ok (.getfield 41, 3) := by decide +kernel
theorem dX9_takePart_37 : decode cX9_takePart 37 = .ok (.iconst (-1), 1) := by decide +kernel
theorem dX9_takePart_38 : decode cX9_takePart 38 = .ok (.if_icmp .ne 5, 3) := by decide +kernel
theorem dX9_takePart_41 : decode cX9_takePart 41 = .ok (.iconst 2, 1) := by decide +kernel
theorem dX9_takePart_42 : decode cX9_takePart 42 = .ok (.ireturn, 1) := by decide +kernel
theorem dX9_takePart_43 : decode cX9_takePart 43 = .ok (.aload_n 0, 1) := by decide +kernel
theorem dX9_takePart_44 : decode cX9_takePart 44 = .ok (.getfield 38, 3) := by decide +kernel
theorem dX9_takePart_47 : decode cX9_takePart 47 = .ok (.aload_n 0, 1) := by decide +kernel
theorem dX9_takePart_48 : decode cX9_takePart 48 = .ok (.getfield 41, 3) := by decide +kernel
theorem dX9_takePart_51 : decode cX9_takePart 51 = .ok (.ishr, 1) := by decide +kernel
theorem dX9_takePart_52 : decode cX9_takePart 52 = .ok (.iconst 1, 1) := by decide +kernel
theorem dX9_takePart_53 : decode cX9_takePart 53 = .ok (.iand, 1) := by decide +kernel
theorem dX9_takePart_54 : decode cX9_takePart 54 = .ok (.ifCond .eq 5, 3) := by decide +kernel
theorem dX9_takePart_57 : decode cX9_takePart 57 = .ok (.iconst 4, 1) := by decide +kernel
theorem dX9_takePart_58 : decode cX9_takePart 58 = .ok (.ireturn, 1) := by decide +kernel
theorem dX9_takePart_59 : decode cX9_takePart 59 = .ok (.aload_n 0, 1) := by decide +kernel
theorem dX9_takePart_60 : decode cX9_takePart 60 = .ok (.dup, 1) := by decide +kernel
theorem dX9_takePart_61 : decode cX9_takePart 61 = .ok (.getfield 38, 3) := by decide +kernel
theorem dX9_takePart_64 : decode cX9_takePart 64 = .ok (.iconst 1, 1) := by decide +kernel
theorem dX9_takePart_65 : decode cX9_takePart 65 = .ok (.aload_n 0, 1) := by decide +kernel
theorem dX9_takePart_66 : decode cX9_takePart 66 = .ok (.getfield 41, 3) := by decide +kernel
theorem dX9_takePart_69 : decode cX9_takePart 69 = .ok (.ishl, 1) := by decide +kernel
theorem dX9_takePart_70 : decode cX9_takePart 70 = .ok (.ior, 1) := by decide +kernel
theorem dX9_takePart_71 : decode cX9_takePart 71 = .ok (.putfield 38, 3) := by decide +kernel
theorem dX9_takePart_74 : decode cX9_takePart 74 = .ok (.aload_n 0, 1) := by decide +kernel
theorem dX9_takePart_75 : decode cX9_takePart 75 = .ok (.getfield 41, 3) := by decide +kernel
theorem dX9_takePart_78 : decode cX9_takePart 78 = .ok (.bipush 6, 2) := by decide +kernel
theorem dX9_takePart_80 : decode cX9_takePart 80 = .ok (.if_icmp .eq 10, 3) := by decide +kernel
theorem dX9_takePart_83 : decode cX9_takePart 83 = .ok (.aload_n 0, 1) := by decide +kernel
theorem dX9_takePart_84 : decode cX9_takePart 84 = .ok (.bipush 6, 2) := by decide +kernel
theorem dX9_takePart_86 : decode cX9_takePart 86 = .ok (.invokevirtual 65, 3) := by decide +kernel
theorem dX9_takePart_89 : decode cX9_takePart 89 = .ok (.ireturn, 1) := by decide +kernel
theorem dX9_takePart_90 : decode cX9_takePart 90 = .ok (.aload_n 1, 1) := by decide +kernel
theorem dX9_takePart_91 : decode cX9_takePart 91 = .ok (.aload_n 1, 1) := by decide +kernel
theorem dX9_takePart_92 : decode cX9_takePart 92 = .ok (.getfield 75, 3) := by decide +kernel
theorem dX9_takePart_95 : decode cX9_takePart 95 = .ok (.invokevirtual 78, 3) := by decide +kernel
theorem dX9_takePart_98 : decode cX9_takePart 98 = .ok (.iconst 0, 1) := by decide +kernel
theorem dX9_takePart_99 : decode cX9_takePart 99 = .ok (.putfield 117, 3) := by decide +kernel
theorem dX9_takePart_102 : decode cX9_takePart 102 = .ok (.aload_n 0, 1) := by decide +kernel
theorem dX9_takePart_103 : decode cX9_takePart 103 = .ok (.bipush 10, 2) := by decide +kernel
theorem dX9_takePart_105 : decode cX9_takePart 105 = .ok (.invokevirtual 65, 3) := by decide +kernel
theorem dX9_takePart_108 : decode cX9_takePart 108 = .ok (.ireturn, 1) := by decide +kernel
theorem e_X9_takePart {X : gk_X} {F : Nat} {S : gk_S} {a : Nat} {p0 : Nat} {r : (Int32 × gk_S)} (h0 : f_X9_takePart F S a p0 = some r) : EvM X m_X9_takePart 7 0 0 [.ref a, .ref p0] S (qRI r) := by
  unfold f_X9_takePart at h0
  refine ev_method (by decide +kernel) rfl rfl (Nat.le_of_ble_eq_true rfl) ?_
  show EvW X m_X9_takePart 7 0 0 0 [some (.ref a), some (.ref p0)] [] S _
  refine ev_aload_n (pc := 0) (i := 0) rfl rfl rfl dX9_takePart_0 ?_
  obtain ⟨g1, h2⟩ := qk_el h0; clear h0
  obtain ⟨x3, e4, h5⟩ := qv_el h2; clear h2
  refine xv_getIv (pc := 1) fn_703 (isb_el g1) e4 gw_123 dX9_takePart_1 ?_
  refine ev_bipush (pc := 4) (v := 59) (by decide) dX9_takePart_4 ?_
  refine ev_ic_ne (pc := 6) (tgt := 25) (by decide) dX9_takePart_6 (fun c6 => ?_) (fun c6 => ?_)
  · replace h5 := qi_f h5 c6
    refine ev_aload_n (pc := 25) (i := 0) rfl rfl rfl dX9_takePart_25 ?_
    refine ev_aload_n (pc := 26) (i := 0) rfl rfl rfl dX9_takePart_26 ?_
    obtain ⟨x8, S9, e10, h11⟩ := qc_el h5; clear h5
    refine xv_callV (pc := 27) (st := [.ref a]) (as := []) (v := (some (.int x8))) (S' := S9) ok_X9_partHere (e_X9_partHere e10) (isb_el g1) (by decide) rfl (Nat.le_of_ble_eq_true rfl) rfl gw_619 dX9_takePart_27 ?_
    obtain ⟨g12, h13⟩ := qk_el h11; clear h11
    obtain ⟨S14, e15, h16⟩ := qv_el h13; clear h13
    refine yv_putI (pc := 30) fn_709 ⟨rfl, rfl⟩ (isb_el g12) e15 gw_129 dX9_takePart_30 ?_
    refine ev_aload_n (pc := 33) (i := 0) rfl rfl rfl dX9_takePart_33 ?_
    obtain ⟨x17, e18, h19⟩ := qv_el h16; clear h16
    refine xv_getIv (pc := 34) fn_709 (is_sI (isb_el g12) e15) e18 gw_129 dX9_takePart_34 ?_
    refine ev_iconst (pc := 37) (v := -1) (by decide) dX9_takePart_37 ?_
    refine ev_ic_ne (pc := 38) (tgt := 43) (by decide) dX9_takePart_38 (fun c20 => ?_) (fun c20 => ?_)
    · replace h19 := qi_f h19 c20
      refine ev_aload_n (pc := 43) (i := 0) rfl rfl rfl dX9_takePart_43 ?_
      obtain ⟨x22, e23, h24⟩ := qv_el h19; clear h19
      refine xv_getIv (pc := 44) fn_708 (is_sI (isb_el g12) e15) e23 gw_128 dX9_takePart_44 ?_
      refine ev_aload_n (pc := 47) (i := 0) rfl rfl rfl dX9_takePart_47 ?_
      obtain ⟨x25, e26, h27⟩ := qv_el h24; clear h24
      refine xv_getIv (pc := 48) fn_709 (is_sI (isb_el g12) e15) e26 gw_129 dX9_takePart_48 ?_
      refine ev_ishr (pc := 51)  dX9_takePart_51 ?_
      refine ev_iconst (pc := 52) (v := 1) (by decide) dX9_takePart_52 ?_
      refine ev_iand (pc := 53)  dX9_takePart_53 ?_
      refine ev_if_eq (pc := 54) (tgt := 59) (by decide) dX9_takePart_54 (fun c28 => ?_) (fun c28 => ?_)
      · replace h27 := qi_t h27 c28
        refine ev_aload_n (pc := 59) (i := 0) rfl rfl rfl dX9_takePart_59 ?_
        refine ev_dup (pc := 60) (.inr rfl) dX9_takePart_60 ?_
        obtain ⟨x30, e31, h32⟩ := qv_el h27; clear h27
        refine xv_getIv (pc := 61) fn_708 (is_sI (isb_el g12) e15) e31 gw_128 dX9_takePart_61 ?_
        refine ev_iconst (pc := 64) (v := 1) (by decide) dX9_takePart_64 ?_
        refine ev_aload_n (pc := 65) (i := 0) rfl rfl rfl dX9_takePart_65 ?_
        obtain ⟨x33, e34, h35⟩ := qv_el h32; clear h32
        refine xv_getIv (pc := 66) fn_709 (is_sI (isb_el g12) e15) e34 gw_129 dX9_takePart_66 ?_
        refine ev_ishl (pc := 69)  dX9_takePart_69 ?_
        refine ev_ior (pc := 70)  dX9_takePart_70 ?_
        obtain ⟨S36, e37, h38⟩ := qv_el h35; clear h35
        refine yv_putI (pc := 71) fn_708 ⟨rfl, rfl⟩ (is_sI (isb_el g12) e15) e37 gw_128 dX9_takePart_71 ?_
        refine ev_aload_n (pc := 74) (i := 0) rfl rfl rfl dX9_takePart_74 ?_
        obtain ⟨x39, e40, h41⟩ := qv_el h38; clear h38
        refine xv_getIv (pc := 75) fn_709 (is_sI (is_sI (isb_el g12) e15) e37) e40 gw_129 dX9_takePart_75 ?_
        refine ev_bipush (pc := 78) (v := 6) (by decide) dX9_takePart_78 ?_
        refine ev_ic_eq (pc := 80) (tgt := 90) (by decide) dX9_takePart_80 (fun c42 => ?_) (fun c42 => ?_)
        · replace h41 := qi_t h41 c42
          refine ev_aload_n (pc := 90) (i := 1) rfl rfl rfl dX9_takePart_90 ?_
          refine ev_aload_n (pc := 91) (i := 1) rfl rfl rfl dX9_takePart_91 ?_
          obtain ⟨g44, h45⟩ := qk_el h41; clear h41
          obtain ⟨x46, e47, h48⟩ := qv_el h45; clear h45
          refine xv_getIv (pc := 92) fn_401 (isb_el g44) e47 gw_94 dX9_takePart_92 ?_
          obtain ⟨x49, S50, e51, h52⟩ := qc_el h48; clear h48
          refine xv_callV (pc := 95) (st := []) (as := [.int x46]) (v := (some (.ref x49))) (S' := S50) ok_X6_at (e_X6_at e51) (isb_el g44) (by decide) rfl (Nat.le_of_ble_eq_true rfl) rfl gw_573 dX9_takePart_95 ?_
          refine ev_iconst (pc := 98) (v := 0) (by decide) dX9_takePart_98 ?_
          obtain ⟨g53, h54⟩ := qk_el h52; clear h52
          obtain ⟨S55, e56, h57⟩ := qv_el h54; clear h54
          refine yv_putI (pc := 99) fn_302 ⟨rfl, rfl⟩ (isb_el g53) e56 gw_71 dX9_takePart_99 ?_
          refine ev_aload_n (pc := 102) (i := 0) rfl rfl rfl dX9_takePart_102 ?_
          refine ev_bipush (pc := 103) (v := 10) (by decide) dX9_takePart_103 ?_
          obtain ⟨g58, h59⟩ := qk_el h57; clear h57
          obtain ⟨x60, S61, e62, h63⟩ := qc_el h59; clear h59
          refine xv_callV (pc := 105) (st := []) (as := [.int 10]) (v := (some (.int x60))) (S' := S61) ok_X9_go (e_X9_go e62) (isb_el g58) (by decide) rfl (Nat.le_of_ble_eq_true rfl) rfl gw_555 dX9_takePart_105 ?_
          exact ev_ireturn (pc := 108) rfl (nar_int _) (qRI_eq h63) dX9_takePart_108
        · replace h41 := qi_f h41 c42
          refine ev_aload_n (pc := 83) (i := 0) rfl rfl rfl dX9_takePart_83 ?_
          refine ev_bipush (pc := 84) (v := 6) (by decide) dX9_takePart_84 ?_
          obtain ⟨x64, S65, e66, h67⟩ := qc_el h41; clear h41
          refine xv_callV (pc := 86) (st := []) (as := [.int 6]) (v := (some (.int x64))) (S' := S65) ok_X9_go (e_X9_go e66) (is_sI (is_sI (isb_el g12) e15) e37) (by decide) rfl (Nat.le_of_ble_eq_true rfl) rfl gw_555 dX9_takePart_86 ?_
          exact ev_ireturn (pc := 89) rfl (nar_int _) (qRI_eq h67) dX9_takePart_89
      · replace h27 := qi_f h27 c28
        refine ev_iconst (pc := 57) (v := 4) (by decide) dX9_takePart_57 ?_
        exact ev_ireturn (pc := 58) rfl (nar_int _) (qRI_eq h27) dX9_takePart_58
    · replace h19 := qi_t h19 c20
      refine ev_iconst (pc := 41) (v := 2) (by decide) dX9_takePart_41 ?_
      exact ev_ireturn (pc := 42) rfl (nar_int _) (qRI_eq h19) dX9_takePart_42
  · replace h5 := qi_t h5 c6
    refine ev_aload_n (pc := 9) (i := 1) rfl rfl rfl dX9_takePart_9 ?_
    refine ev_dup (pc := 10) (.inr rfl) dX9_takePart_10 ?_
    obtain ⟨g68, h69⟩ := qk_el h5; clear h5
    obtain ⟨x70, e71, h72⟩ := qv_el h69; clear h69
    refine xv_getIv (pc := 11) fn_401 (isb_el g68) e71 gw_94 dX9_takePart_11 ?_
    refine ev_iconst (pc := 14) (v := 1) (by decide) dX9_takePart_14 ?_
    refine ev_iadd (pc := 15)  dX9_takePart_15 ?_
    obtain ⟨S73, e74, h75⟩ := qv_el h72; clear h72
    refine yv_putI (pc := 16) fn_401 ⟨rfl, rfl⟩ (isb_el g68) e74 gw_94 dX9_takePart_16 ?_
    refine ev_aload_n (pc := 19) (i := 0) rfl rfl rfl dX9_takePart_19 ?_
    refine ev_iconst (pc := 20) (v := 4) (by decide) dX9_takePart_20 ?_
    obtain ⟨x76, S77, e78, h79⟩ := qc_el h75; clear h75
    refine xv_callV (pc := 21) (st := []) (as := [.int 4]) (v := (some (.int x76))) (S' := S77) ok_X9_go (e_X9_go e78) (is_sI (isb_el g1) e74) (by decide) rfl (Nat.le_of_ble_eq_true rfl) rfl gw_555 dX9_takePart_21 ?_
    exact ev_ireturn (pc := 24) rfl (nar_int _) (qRI_eq h79) dX9_takePart_24
theorem dX9_takeLastValue_0 : decode cX9_takeLastValue 0 = .ok (.aload_n 0, 1) := by decide +kernel
theorem dX9_takeLastValue_1 : decode cX9_takeLastValue 1 = .ok (.invokevirtual 123, 3) := by decide +kernel
theorem dX9_takeLastValue_4 : decode cX9_takeLastValue 4 = .ok (.ifCond .ne 5, 3) := by decide +kernel
theorem dX9_takeLastValue_7 : decode cX9_takeLastValue 7 = .ok (.iconst 2, 1) := by decide +kernel
theorem dX9_takeLastValue_8 : decode cX9_takeLastValue 8 = .ok (.ireturn, 1) := by decide +kernel
theorem dX9_takeLastValue_9 : decode cX9_takeLastValue 9 = .ok (.aload_n 0, 1) := by decide +kernel
theorem dX9_takeLastValue_10 : decode cX9_takeLastValue 10 = .ok (.getfield 31, 3) := by decide +kernel
theorem dX9_takeLastValue_13 : decode cX9_takeLastValue 13 = .ok (.aload_n 0, 1) := by decide +kernel
theorem dX9_takeLastValue_14 : decode cX9_takeLastValue 14 = .ok (.getfield 44, 3) := by decide +kernel
theorem dX9_takeLastValue_17 : decode cX9_takeLastValue 17 = .ok (.lcmp, 1) := by decide +kernel
theorem dX9_takeLastValue_18 : decode cX9_takeLastValue 18 = .ok (.ifCond .lt 15, 3) := by decide +kernel
theorem dX9_takeLastValue_21 : decode cX9_takeLastValue 21 = .ok (.aload_n 0, 1) := by decide +kernel
theorem dX9_takeLastValue_22 : decode cX9_takeLastValue 22 = .ok (.getfield 31, 3) := by decide +kernel
theorem dX9_takeLastValue_25 : decode cX9_takeLastValue 25 = .ok (.aload_n 0, 1) := by decide +kernel
theorem dX9_takeLastValue_26 : decode cX9_takeLastValue 26 = .ok (.invokevirtual 126, 3) := by decide +kernel
theorem dX9_takeLastValue_29 : decode cX9_takeLastValue 29 = .ok (.lcmp, 1) := by decide +kernel
theorem dX9_takeLastValue_30 : decode cX9_takeLastValue 30 = .ok (.ifCond .le 5, 3) := by decide +kernel
theorem dX9_takeLastValue_33 : decode cX9_takeLastValue 33 = .ok (.iconst 3, 1) := by decide +kernel
theorem dX9_takeLastValue_34 : decode cX9_takeLastValue 34 = .ok (.ireturn, 1) := by decide +kernel
theorem dX9_takeLastValue_35 : decode cX9_takeLastValue 35 = .ok (.aload_n 1, 1) := by decide +kernel
theorem dX9_takeLastValue_36 : decode cX9_takeLastValue 36 = .ok (.aload_n 0, 1) := by decide +kernel
theorem dX9_takeLastValue_37 : decode cX9_takeLastValue 37 = .ok (.getfield 41, 3) := by decide +kernel
theorem dX9_takeLastValue_40 : decode cX9_takeLastValue 40 = .ok (.aload_n 0, 1) := by decide +kernel
theorem dX9_takeLastValue_41 : decode cX9_takeLastValue 41 = .ok (.getfield 44, 3) := by decide +kernel
theorem dX9_takeLastValue_44 : decode cX9_takeLastValue 44 = .ok (.aload_n 0, 1) := by decide +kernel
theorem dX9_takeLastValue_45 : decode cX9_takeLastValue 45 = .ok (.getfield 31, 3) := by decide +kernel
theorem dX9_takeLastValue_48 : decode cX9_takeLastValue 48 = .ok (.invokevirtual 130, 3) := by decide +kernel
theorem dX9_takeLastValue_51 : decode cX9_takeLastValue 51 = .ok (.aload_n 0, 1) := by decide +kernel
theorem dX9_takeLastValue_52 : decode cX9_takeLastValue 52 = .ok (.iconst 5, 1) := by decide +kernel
theorem dX9_takeLastValue_53 : decode cX9_takeLastValue 53 = .ok (.invokevirtual 65, 3) := by decide +kernel
theorem dX9_takeLastValue_56 : decode cX9_takeLastValue 56 = .ok (.ireturn, 1) := by decide +kernel
theorem e_X9_takeLastValue {X : gk_X} {F : Nat} {S : gk_S} {a : Nat} {p0 : Nat} {r : (Int32 × gk_S)} (h0 : f_X9_takeLastValue F S a p0 = some r) : EvM X m_X9_takeLastValue 3 0 0 [.ref a, .ref p0] S (qRI r) := by
  unfold f_X9_takeLastValue at h0
  refine ev_method (by decide +kernel) rfl rfl (Nat.le_of_ble_eq_true rfl) ?_
  show EvW X m_X9_takeLastValue 3 0 0 0 [some (.ref a), some (.ref p0)] [] S _
  refine ev_aload_n (pc := 0) (i := 0) rfl rfl rfl dX9_takeLastValue_0 ?_
  obtain ⟨g1, h2⟩ := qk_el h0; clear h0
  obtain ⟨x3, S4, e5, h6⟩ := qc_el h2; clear h2
  refine xv_callV (pc := 1) (st := []) (as := []) (v := (some (.int x3))) (S' := S4) ok_X9_isValue (e_X9_isValue e5) (isb_el g1) (by decide) rfl (Nat.le_of_ble_eq_true rfl) rfl gw_602 dX9_takeLastValue_1 ?_
  refine ev_if_ne (pc := 4) (tgt := 9) (by decide) dX9_takeLastValue_4 (fun c7 => ?_) (fun c7 => ?_)
  · replace h6 := qi_f h6 c7
    refine ev_aload_n (pc := 9) (i := 0) rfl rfl rfl dX9_takeLastValue_9 ?_
    obtain ⟨g9, h10⟩ := qk_el h6; clear h6
    obtain ⟨x11, e12, h13⟩ := qv_el h10; clear h10
    refine xv_getJv (pc := 10) fn_706 (isb_el g9) e12 gw_126 dX9_takeLastValue_10 ?_
    refine ev_aload_n (pc := 13) (i := 0) rfl rfl rfl dX9_takeLastValue_13 ?_
    obtain ⟨x14, e15, h16⟩ := qv_el h13; clear h13
    refine xv_getJv (pc := 14) fn_710 (isb_el g9) e15 gw_130 dX9_takeLastValue_14 ?_
    refine ev_lcmp (pc := 17)  dX9_takeLastValue_17 ?_
    refine ev_if_lt (pc := 18) (tgt := 33) (by decide) dX9_takeLastValue_18 (fun c17 => ?_) (fun c17 => ?_)
    · replace h16 := qi_t h16 (lc_lt c17)
      refine ev_iconst (pc := 33) (v := 3) (by decide) dX9_takeLastValue_33 ?_
      exact ev_ireturn (pc := 34) rfl (nar_int _) (qRI_eq h16) dX9_takeLastValue_34
    · replace h16 := qi_f h16 (lc_ltN c17)
      refine ev_aload_n (pc := 21) (i := 0) rfl rfl rfl dX9_takeLastValue_21 ?_
      obtain ⟨x19, e20, h21⟩ := qv_el h16; clear h16
      refine xv_getJv (pc := 22) fn_706 (isb_el g9) e20 gw_126 dX9_takeLastValue_22 ?_
      refine ev_aload_n (pc := 25) (i := 0) rfl rfl rfl dX9_takeLastValue_25 ?_
      obtain ⟨x22, S23, e24, h25⟩ := qc_el h21; clear h21
      refine xv_callV (pc := 26) (st := [.long x19]) (as := []) (v := (some (.long x22))) (S' := S23) ok_X9_top (e_X9_top e24) (isb_el g9) (by decide) rfl (Nat.le_of_ble_eq_true rfl) rfl gw_610 dX9_takeLastValue_26 ?_
      refine ev_lcmp (pc := 29)  dX9_takeLastValue_29 ?_
      refine ev_if_le (pc := 30) (tgt := 35) (by decide) dX9_takeLastValue_30 (fun c26 => ?_) (fun c26 => ?_)
      · replace h25 := qi_t h25 (lc_le c26)
        refine ev_aload_n (pc := 35) (i := 1) rfl rfl rfl dX9_takeLastValue_35 ?_
        refine ev_aload_n (pc := 36) (i := 0) rfl rfl rfl dX9_takeLastValue_36 ?_
        obtain ⟨g28, h29⟩ := qk_el h25; clear h25
        obtain ⟨x30, e31, h32⟩ := qv_el h29; clear h29
        refine xv_getIv (pc := 37) fn_709 (isb_el g28) e31 gw_129 dX9_takeLastValue_37 ?_
        refine ev_aload_n (pc := 40) (i := 0) rfl rfl rfl dX9_takeLastValue_40 ?_
        obtain ⟨x33, e34, h35⟩ := qv_el h32; clear h32
        refine xv_getJv (pc := 41) fn_710 (isb_el g28) e34 gw_130 dX9_takeLastValue_41 ?_
        refine ev_aload_n (pc := 44) (i := 0) rfl rfl rfl dX9_takeLastValue_44 ?_
        obtain ⟨x36, e37, h38⟩ := qv_el h35; clear h35
        refine xv_getJv (pc := 45) fn_706 (isb_el g28) e37 gw_126 dX9_takeLastValue_45 ?_
        obtain ⟨g39, h40⟩ := qk_el h38; clear h38
        obtain ⟨x41, S42, e43, h44⟩ := qc_el h40; clear h40
        refine xv_callV (pc := 48) (st := []) (as := [.int x30, .long x33, .long x36]) (v := none) (S' := S42) ok_X5_setRange (e_X5_setRange e43) (isb_el g39) (by decide) rfl (Nat.le_of_ble_eq_true rfl) rfl gw_598 dX9_takeLastValue_48 ?_
        refine ev_aload_n (pc := 51) (i := 0) rfl rfl rfl dX9_takeLastValue_51 ?_
        refine ev_iconst (pc := 52) (v := 5) (by decide) dX9_takeLastValue_52 ?_
        obtain ⟨g45, h46⟩ := qk_el h44; clear h44
        obtain ⟨x47, S48, e49, h50⟩ := qc_el h46; clear h46
        refine xv_callV (pc := 53) (st := []) (as := [.int 5]) (v := (some (.int x47))) (S' := S48) ok_X9_go (e_X9_go e49) (isb_el g45) (by decide) rfl (Nat.le_of_ble_eq_true rfl) rfl gw_555 dX9_takeLastValue_53 ?_
        exact ev_ireturn (pc := 56) rfl (nar_int _) (qRI_eq h50) dX9_takeLastValue_56
      · replace h25 := qi_f h25 (lc_leN c26)
        refine ev_iconst (pc := 33) (v := 3) (by decide) dX9_takeLastValue_33 ?_
        exact ev_ireturn (pc := 34) rfl (nar_int _) (qRI_eq h25) dX9_takeLastValue_34
  · replace h6 := qi_t h6 c7
    refine ev_iconst (pc := 7) (v := 2) (by decide) dX9_takeLastValue_7 ?_
    exact ev_ireturn (pc := 8) rfl (nar_int _) (qRI_eq h6) dX9_takeLastValue_8
theorem dX9_takeBits_0 : decode cX9_takeBits 0 = .ok (.aload_n 0, 1) := by decide +kernel
theorem dX9_takeBits_1 : decode cX9_takeBits 1 = .ok (.getfield 22, 3) := by decide +kernel
theorem dX9_takeBits_4 : decode cX9_takeBits 4 = .ok (.sipush 258, 3) := by decide +kernel
theorem dX9_takeBits_7 : decode cX9_takeBits 7 = .ok (.if_icmp .eq 5, 3) := by decide +kernel
theorem dX9_takeBits_10 : decode cX9_takeBits 10 = .ok (.iconst 2, 1) := by decide +kernel
theorem dX9_takeBits_11 : decode cX9_takeBits 11 = .ok (.ireturn, 1) := by decide +kernel
theorem dX9_takeBits_12 : decode cX9_takeBits 12 = .ok (.aload_n 0, 1) := by decide +kernel
theorem dX9_takeBits_13 : decode cX9_takeBits 13 = .ok (.getfield 31, 3) := by decide +kernel
theorem dX9_takeBits_16 : decode cX9_takeBits 16 = .ok (.ldc2_w 140, 3) := by decide +kernel
theorem dX9_takeBits_19 : decode cX9_takeBits 19 = .ok (.lcmp, 1) := by decide +kernel
theorem dX9_takeBits_20 : decode cX9_takeBits 20 = .ok (.ifCond .le 5, 3) := by decide +kernel
theorem dX9_takeBits_23 : decode cX9_takeBits 23 = .ok (.iconst 3, 1) := by decide +kernel
theorem dX9_takeBits_24 : decode cX9_takeBits 24 = .ok (.ireturn, 1) := by decide +kernel
theorem dX9_takeBits_25 : decode cX9_takeBits 25 = .ok (.lconst 1, 1) := by decide +kernel
theorem dX9_takeBits_26 : decode cX9_takeBits 26 = .ok (.bipush 32, 2) := by decide +kernel
theorem dX9_takeBits_28 : decode cX9_takeBits 28 = .ok (.aload_n 0, 1) := by decide +kernel
theorem dX9_takeBits_29 : decode cX9_takeBits 29 = .ok (.getfield 31, 3) := by decide +kernel
theorem dX9_takeBits_32 : decode cX9_takeBits 32 = .ok (.l2i, 1) := by decide +kernel
theorem dX9_takeBits_33 : decode cX9_takeBits 33 = .ok (.isub, 1) := by decide +kernel
theorem dX9_takeBits_34 : decode cX9_takeBits 34 = .ok (.lshl, 1) := by decide +kernel
theorem dX9_takeBits_35 : decode cX9_takeBits 35 = .ok (.lconst 1, 1) := by decide +kernel
theorem dX9_takeBits_36 : decode cX9_takeBits 36 = .ok (.lsub, 1) := by decide +kernel
theorem dX9_takeBits_37 : decode cX9_takeBits 37 = .ok (.lstore_n 2, 1) := by decide +kernel
theorem dX9_takeBits_38 : decode cX9_takeBits 38 = .ok (.aload_n 1, 1) := by decide +kernel
theorem dX9_takeBits_39 : decode cX9_takeBits 39 = .ok (.aload_n 0, 1) := by decide +kernel
theorem dX9_takeBits_40 : decode cX9_takeBits 40 = .ok (.getfield 41, 3) := by decide +kernel
theorem dX9_takeBits_43 : decode cX9_takeBits 43 = .ok (.aload_n 0, 1) := by decide +kernel
theorem dX9_takeBits_44 : decode cX9_takeBits 44 = .ok (.getfield 44, 3) := by decide +kernel
theorem dX9_takeBits_47 : decode cX9_takeBits 47 = .ok (.lload_n 2, 1) := by decide +kernel
theorem dX9_takeBits_48 : decode cX9_takeBits 48 = .ok (.ldc2_w 142, 3) := by decide +kernel
theorem dX9_takeBits_51 : decode cX9_takeBits 51 = .ok (.lxor, 1) := by decide +kernel
theorem dX9_takeBits_52 : decode cX9_takeBits 52 = .ok (.land, 1) := by decide +kernel
theorem dX9_takeBits_53 : decode cX9_takeBits 53 = .ok (.aload_n 0, 1) := by decide +kernel
theorem dX9_takeBits_54 : decode cX9_takeBits 54 = .ok (.getfield 44, 3) := by decide +kernel
theorem dX9_takeBits_57 : decode cX9_takeBits 57 = .ok (.lload_n 2, 1) := by decide +kernel
theorem dX9_takeBits_58 : decode cX9_takeBits 58 = .ok (.lor, 1) := by decide +kernel
theorem dX9_takeBits_59 : decode cX9_takeBits 59 = .ok (.invokevirtual 130, 3) := by decide +kernel
theorem dX9_takeBits_62 : decode cX9_takeBits 62 = .ok (.aload_n 0, 1) := by decide +kernel
theorem dX9_takeBits_63 : decode cX9_takeBits 63 = .ok (.iconst 5, 1) := by decide +kernel
theorem dX9_takeBits_64 : decode cX9_takeBits 64 = .ok (.invokevirtual 65, 3) := by decide +kernel
theorem dX9_takeBits_67 : decode cX9_takeBits 67 = .ok (.ireturn, 1) := by decide +kernel
theorem e_X9_takeBits {X : gk_X} {F : Nat} {S : gk_S} {a : Nat} {p0 : Nat} {r : (Int32 × gk_S)} (h0 : f_X9_takeBits F S a p0 = some r) : EvM X m_X9_takeBits 2 0 0 [.ref a, .ref p0] S (qRI r) := by
  unfold f_X9_takeBits at h0
  refine ev_method (by decide +kernel) rfl rfl (Nat.le_of_ble_eq_true rfl) ?_
  show EvW X m_X9_takeBits 2 0 0 0 [some (.ref a), some (.ref p0), none, none] [] S _
  refine ev_aload_n (pc := 0) (i := 0) rfl rfl rfl dX9_takeBits_0 ?_
  obtain ⟨g1, h2⟩ := qk_el h0; clear h0
  obtain ⟨x3, e4, h5⟩ := qv_el h2; clear h2
  refine xv_getIv (pc := 1) fn_703 (isb_el g1) e4 gw_123 dX9_takeBits_1 ?_
  refine ev_sipush (pc := 4) (v := 258) (by decide) dX9_takeBits_4 ?_
  refine ev_ic_eq (pc := 7) (tgt := 12) (by decide) dX9_takeBits_7 (fun c6 => ?_) (fun c6 => ?_)
  · replace h5 := qi_t h5 c6
    refine ev_aload_n (pc := 12) (i := 0) rfl rfl rfl dX9_takeBits_12 ?_
    obtain ⟨x8, e9, h10⟩ := qv_el h5; clear h5
    refine xv_getJv (pc := 13) fn_706 (isb_el g1) e9 gw_126 dX9_takeBits_13 ?_
    refine ev_ldc2 (pc := 16) (v := 32) gw_641 dX9_takeBits_16 ?_
    refine ev_lcmp (pc := 19)  dX9_takeBits_19 ?_
    refine ev_if_le (pc := 20) (tgt := 25) (by decide) dX9_takeBits_20 (fun c11 => ?_) (fun c11 => ?_)
    · replace h10 := qi_t h10 (lc_le c11)
      refine ev_lconst (pc := 25) (v := 1) (by decide) dX9_takeBits_25 ?_
      refine ev_bipush (pc := 26) (v := 32) (by decide) dX9_takeBits_26 ?_
      refine ev_aload_n (pc := 28) (i := 0) rfl rfl rfl dX9_takeBits_28 ?_
      obtain ⟨x13, e14, h15⟩ := qv_el h10; clear h10
      refine xv_getJv (pc := 29) fn_706 (isb_el g1) e14 gw_126 dX9_takeBits_29 ?_
      refine ev_l2i (pc := 32)  dX9_takeBits_32 ?_
      refine ev_isub (pc := 33)  dX9_takeBits_33 ?_
      refine ev_lshl (pc := 34)  dX9_takeBits_34 ?_
      obtain ⟨x16, e17, h18⟩ := qv_el h15; clear h15
      refine xv_topl e17 ?_
      refine ev_lconst (pc := 35) (v := 1) (by decide) dX9_takeBits_35 ?_
      refine ev_lsub (pc := 36)  dX9_takeBits_36 ?_
      refine ev_lstore_n (pc := 37) (L' := [some (.ref a), some (.ref p0), some (.long (x16 - 1)), none]) (i := 2) rfl (by decide) rfl rfl dX9_takeBits_37 ?_
      refine ev_aload_n (pc := 38) (i := 1) rfl rfl rfl dX9_takeBits_38 ?_
      refine ev_aload_n (pc := 39) (i := 0) rfl rfl rfl dX9_takeBits_39 ?_
      obtain ⟨x19, e20, h21⟩ := qv_el h18; clear h18
      refine xv_getIv (pc := 40) fn_709 (isb_el g1) e20 gw_129 dX9_takeBits_40 ?_
      refine ev_aload_n (pc := 43) (i := 0) rfl rfl rfl dX9_takeBits_43 ?_
      obtain ⟨x22, e23, h24⟩ := qv_el h21; clear h21
      refine xv_getJv (pc := 44) fn_710 (isb_el g1) e23 gw_130 dX9_takeBits_44 ?_
      refine ev_lload_n (pc := 47) (i := 2) rfl rfl dX9_takeBits_47 ?_
      refine ev_ldc2 (pc := 48) (v := -1) gw_642 dX9_takeBits_48 ?_
      refine ev_lxor (pc := 51)  dX9_takeBits_51 ?_
      refine ev_land (pc := 52)  dX9_takeBits_52 ?_
      refine ev_aload_n (pc := 53) (i := 0) rfl rfl rfl dX9_takeBits_53 ?_
      obtain ⟨x25, e26, h27⟩ := qv_el h24; clear h24
      refine xv_getJv (pc := 54) fn_710 (isb_el g1) e26 gw_130 dX9_takeBits_54 ?_
      refine ev_lload_n (pc := 57) (i := 2) rfl rfl dX9_takeBits_57 ?_
      refine ev_lor (pc := 58)  dX9_takeBits_58 ?_
      obtain ⟨g28, h29⟩ := qk_el h27; clear h27
      obtain ⟨x30, S31, e32, h33⟩ := qc_el h29; clear h29
      refine xv_callV (pc := 59) (st := []) (as := [.int x19, .long (x22 &&& ((x16 - 1) ^^^ (-1))), .long (x25 ||| (x16 - 1))]) (v := none) (S' := S31) ok_X5_setRange (e_X5_setRange e32) (isb_el g28) (by decide) rfl (Nat.le_of_ble_eq_true rfl) rfl gw_598 dX9_takeBits_59 ?_
      refine ev_aload_n (pc := 62) (i := 0) rfl rfl rfl dX9_takeBits_62 ?_
      refine ev_iconst (pc := 63) (v := 5) (by decide) dX9_takeBits_63 ?_
      obtain ⟨g34, h35⟩ := qk_el h33; clear h33
      obtain ⟨x36, S37, e38, h39⟩ := qc_el h35; clear h35
      refine xv_callV (pc := 64) (st := []) (as := [.int 5]) (v := (some (.int x36))) (S' := S37) ok_X9_go (e_X9_go e38) (isb_el g34) (by decide) rfl (Nat.le_of_ble_eq_true rfl) rfl gw_555 dX9_takeBits_64 ?_
      exact ev_ireturn (pc := 67) rfl (nar_int _) (qRI_eq h39) dX9_takeBits_67
    · replace h10 := qi_f h10 (lc_leN c11)
      refine ev_iconst (pc := 23) (v := 3) (by decide) dX9_takeBits_23 ?_
      exact ev_ireturn (pc := 24) rfl (nar_int _) (qRI_eq h10) dX9_takeBits_24
  · replace h5 := qi_f h5 c6
    refine ev_iconst (pc := 10) (v := 2) (by decide) dX9_takeBits_10 ?_
    exact ev_ireturn (pc := 11) rfl (nar_int _) (qRI_eq h5) dX9_takeBits_11
theorem dX11_stateWord_0 : decode cX11_stateWord 0 = .ok (.iload_n 0, 1) := by decide +kernel
theorem dX11_stateWord_1 : decode cX11_stateWord 1 = .ok (.tableswitch 39 0 2 #[27, 31, 35], 27) := by decide +kernel
theorem dX11_stateWord_28 : decode cX11_stateWord 28 = .ok (.ldc_w 306, 3) := by decide +kernel
theorem dX11_stateWord_31 : decode cX11_stateWord 31 = .ok (.areturn, 1) := by decide +kernel
theorem dX11_stateWord_32 : decode cX11_stateWord 32 = .ok (.ldc_w 308, 3) := by decide +kernel
theorem dX11_stateWord_35 : decode cX11_stateWord 35 = .ok (.areturn, 1) := by decide +kernel
theorem dX11_stateWord_36 : decode cX11_stateWord 36 = .ok (.ldc_w 310, 3) := by decide +kernel
theorem dX11_stateWord_39 : decode cX11_stateWord 39 = .ok (.areturn, 1) := by decide +kernel
theorem dX11_stateWord_40 : decode cX11_stateWord 40 = .ok (.ldc_w 312, 3) := by decide +kernel
theorem dX11_stateWord_43 : decode cX11_stateWord 43 = .ok (.areturn, 1) := by decide +kernel
theorem e_X11_stateWord {X : gk_X} {F : Nat} {S : gk_S} {p0 : Int32} {r : (Nat × gk_S)} (h0 : f_X11_stateWord F S p0 = some r) : EvM X m_X11_stateWord 1 0 0 [.int p0] S (qRT r) := by
  unfold f_X11_stateWord at h0
  refine ev_method (by decide +kernel) rfl rfl (Nat.le_of_ble_eq_true rfl) ?_
  show EvW X m_X11_stateWord 1 0 0 0 [some (.int p0)] [] S _
  refine ev_iload_n (pc := 0) (i := 0) rfl rfl dX11_stateWord_0 ?_
  by_cases c1 : p0 = 0
  · refine ev_tableIn (pc := 1) (off := 27) (tgt := 28) (by rw [c1]; decide) (by rw [c1]; decide) (by rw [c1]; rfl) (by decide) dX11_stateWord_1 ?_
    replace h0 := qi_t h0 c1
    refine ev_ldcSW (pc := 28) (i := 15) (by decide) rfl rfl dX11_stateWord_28 ?_
    exact ev_areturn (pc := 31) rfl (by first | exact .inl ⟨_, rfl⟩ | exact .inr ⟨_, rfl⟩) rfl (qRT_eq h0) dX11_stateWord_31
  replace h0 := qi_f h0 c1
  by_cases c2 : p0 = 1
  · refine ev_tableIn (pc := 1) (off := 31) (tgt := 32) (by rw [c2]; decide) (by rw [c2]; decide) (by rw [c2]; rfl) (by decide) dX11_stateWord_1 ?_
    replace h0 := qi_t h0 c2
    refine ev_ldcSW (pc := 32) (i := 16) (by decide) rfl rfl dX11_stateWord_32 ?_
    exact ev_areturn (pc := 35) rfl (by first | exact .inl ⟨_, rfl⟩ | exact .inr ⟨_, rfl⟩) rfl (qRT_eq h0) dX11_stateWord_35
  replace h0 := qi_f h0 c2
  by_cases c3 : p0 = 2
  · refine ev_tableIn (pc := 1) (off := 35) (tgt := 36) (by rw [c3]; decide) (by rw [c3]; decide) (by rw [c3]; rfl) (by decide) dX11_stateWord_1 ?_
    replace h0 := qi_t h0 c3
    refine ev_ldcSW (pc := 36) (i := 17) (by decide) rfl rfl dX11_stateWord_36 ?_
    exact ev_areturn (pc := 39) rfl (by first | exact .inl ⟨_, rfl⟩ | exact .inr ⟨_, rfl⟩) rfl (qRT_eq h0) dX11_stateWord_39
  replace h0 := qi_f h0 c3
  refine ev_tableOut (pc := 1) (tgt := 40) (by have z0 := ti_ne c1 (n := 0) rfl; have z1 := ti_ne c2 (n := 1) rfl; have z2 := ti_ne c3 (n := 2) rfl; omega) (by decide) dX11_stateWord_1 ?_
  refine ev_ldcSW (pc := 40) (i := 18) (by decide) rfl rfl dX11_stateWord_40 ?_
  exact ev_areturn (pc := 43) rfl (by first | exact .inl ⟨_, rfl⟩ | exact .inr ⟨_, rfl⟩) rfl (qRT_eq h0) dX11_stateWord_43
theorem dX9_stateHere_0 : decode cX9_stateHere 0 = .ok (.iconst 0, 1) := by decide +kernel
theorem dX9_stateHere_1 : decode cX9_stateHere 1 = .ok (.istore_n 1, 1) := by decide +kernel
theorem dX9_stateHere_2 : decode cX9_stateHere 2 = .ok (.iload_n 1, 1) := by decide +kernel
theorem dX9_stateHere_3 : decode cX9_stateHere 3 = .ok (.iconst 4, 1) := by decide +kernel
theorem dX9_stateHere_4 : decode cX9_stateHere 4 = .ok (.if_icmp .ge 22, 3) := by decide +kernel
theorem dX9_stateHere_7 : decode cX9_stateHere 7 = .ok (.aload_n 0, 1) := by decide +kernel
theorem dX9_stateHere_8 : decode cX9_stateHere 8 = .ok (.iload_n 1, 1) := by decide +kernel
theorem dX9_stateHere_9 : decode cX9_stateHere 9 = .ok (.invokestatic 158, 3) := by decide +kernel
theorem dX9_stateHere_12 : decode cX9_stateHere 12 = .ok (.invokevirtual 61, 3) := by decide +kernel
theorem dX9_stateHere_15 : decode cX9_stateHere 15 = .ok (.ifCond .eq 5, 3) := by decide +kernel
theorem dX9_stateHere_18 : decode cX9_stateHere 18 = .ok (.iload_n 1, 1) := by decide +kernel
theorem dX9_stateHere_19 : decode cX9_stateHere 19 = .ok (.ireturn, 1) := by decide +kernel
theorem dX9_stateHere_20 : decode cX9_stateHere 20 = .ok (.iinc 1 1, 3) := by decide +kernel
theorem dX9_stateHere_23 : decode cX9_stateHere 23 = .ok (.goto (-21), 3) := by decide +kernel
theorem dX9_stateHere_26 : decode cX9_stateHere 26 = .ok (.iconst (-1), 1) := by decide +kernel
theorem dX9_stateHere_27 : decode cX9_stateHere 27 = .ok (.ireturn, 1) := by decide +kernel
theorem e_X9_stateHere_2 {X : gk_X} {F : Nat} : ∀ (n : Nat) (l0 : Nat) (l1 : Int32) (S : gk_S) (r : (Int32 × gk_S)), f_X9_stateHere_2 F n l0 l1 S = some r → EvW X m_X9_stateHere 6 0 0 2 [some (.ref l0), some (.int l1)] [] S (qRI r) := by
  intro n
  induction n with
  | zero => intro l0 l1 S r h0; rw [f_X9_stateHere_2] at h0; cases h0
  | succ n ih =>
    intro l0 l1 S r h0; rw [f_X9_stateHere_2] at h0
    refine ev_iload_n (pc := 2) (i := 1) rfl rfl dX9_stateHere_2 ?_
    refine ev_iconst (pc := 3) (v := 4) (by decide) dX9_stateHere_3 ?_
    refine ev_ic_ge (pc := 4) (tgt := 26) (by decide) dX9_stateHere_4 (fun c1 => ?_) (fun c1 => ?_)
    · replace h0 := qi_t h0 c1
      refine ev_iconst (pc := 26) (v := -1) (by decide) dX9_stateHere_26 ?_
      exact ev_ireturn (pc := 27) rfl (nar_int _) (qRI_eq h0) dX9_stateHere_27
    · replace h0 := qi_f h0 c1
      refine ev_aload_n (pc := 7) (i := 0) rfl rfl rfl dX9_stateHere_7 ?_
      refine ev_iload_n (pc := 8) (i := 1) rfl rfl dX9_stateHere_8 ?_
      obtain ⟨x3, S4, e5, h6⟩ := qc_el h0; clear h0
      refine xv_callSN (pc := 9) (st := [.ref l0]) (as := [.int l1]) (v := (some (.retAddr (10 + x3)))) (S' := S4) (host := "GateHouse") ok_X11_stateWord (e_X11_stateWord e5) (by decide) rfl (Nat.le_of_ble_eq_true rfl) rfl (by decide +kernel) dX9_stateHere_9 ?_
      obtain ⟨g7, h8⟩ := qk_el h6; clear h6
      obtain ⟨x9, S10, e11, h12⟩ := qc_el h8; clear h8
      refine xv_callV (pc := 12) (st := []) (as := [.retAddr (10 + x3)]) (v := (some (.int x9))) (S' := S10) ok_X9_isWord (e_X9_isWord e11) (isb_el g7) (by decide) rfl (Nat.le_of_ble_eq_true rfl) rfl gw_503 dX9_stateHere_12 ?_
      refine ev_if_eq (pc := 15) (tgt := 20) (by decide) dX9_stateHere_15 (fun c13 => ?_) (fun c13 => ?_)
      · replace h12 := qi_t h12 c13
        refine ev_iinc (pc := 20) (L' := [some (.ref l0), some (.int (l1 + 1))]) (i := 1) (v := (l1 + 1)) rfl rfl (by decide) rfl rfl dX9_stateHere_20 ?_
        refine ev_goto (pc := 23) (tgt := 2) (by decide) dX9_stateHere_23 ?_
        exact (ev_weak (qL_s (qL_s qL_nil)) (ih _ _ _ _ h12))
      · replace h12 := qi_f h12 c13
        refine ev_iload_n (pc := 18) (i := 1) rfl rfl dX9_stateHere_18 ?_
        exact ev_ireturn (pc := 19) rfl (nar_int _) (qRI_eq h12) dX9_stateHere_19
theorem e_X9_stateHere {X : gk_X} {F : Nat} {S : gk_S} {a : Nat} {r : (Int32 × gk_S)} (h0 : f_X9_stateHere F S a = some r) : EvM X m_X9_stateHere 6 0 0 [.ref a] S (qRI r) := by
  unfold f_X9_stateHere at h0
  refine ev_method (by decide +kernel) rfl rfl (Nat.le_of_ble_eq_true rfl) ?_
  show EvW X m_X9_stateHere 6 0 0 0 [some (.ref a), none] [] S _
  refine ev_iconst (pc := 0) (v := 0) (by decide) dX9_stateHere_0 ?_
  refine ev_istore_n (pc := 1) (L' := [some (.ref a), some (.int 0)]) (i := 1) rfl (by decide) rfl rfl dX9_stateHere_1 ?_
  exact ev_weak (qL_s (qL_s qL_nil)) (e_X9_stateHere_2 F _ _ _ _ h0)
theorem dX9_takeState_0 : decode cX9_takeState 0 = .ok (.aload_n 0, 1) := by decide +kernel
theorem dX9_takeState_1 : decode cX9_takeState 1 = .ok (.invokevirtual 144, 3) := by decide +kernel
theorem dX9_takeState_4 : decode cX9_takeState 4 = .ok (.istore_n 2, 1) := by decide +kernel
theorem dX9_takeState_5 : decode cX9_takeState 5 = .ok (.iload_n 2, 1) := by decide +kernel
theorem dX9_takeState_6 : decode cX9_takeState 6 = .ok (.iconst (-1), 1) := by decide +kernel
theorem dX9_takeState_7 : decode cX9_takeState 7 = .ok (.if_icmp .ne 5, 3) := by decide +kernel
theorem dX9_takeState_10 : decode cX9_takeState 10 = .ok (.iconst 2, 1) := by decide +kernel
theorem dX9_takeState_11 : decode cX9_takeState 11 = .ok (.ireturn, 1) := by decide +kernel
theorem dX9_takeState_12 : decode cX9_takeState 12 = .ok (.aload_n 1, 1) := by decide +kernel
theorem dX9_takeState_13 : decode cX9_takeState 13 = .ok (.dup, 1) := by decide +kernel
theorem dX9_takeState_14 : decode cX9_takeState 14 = .ok (.getfield 117, 3) := by decide +kernel
theorem dX9_takeState_17 : decode cX9_takeState 17 = .ok (.iconst 1, 1) := by decide +kernel
theorem dX9_takeState_18 : decode cX9_takeState 18 = .ok (.iload_n 2, 1) := by decide +kernel
theorem dX9_takeState_19 : decode cX9_takeState 19 = .ok (.ishl, 1) := by decide +kernel
theorem dX9_takeState_20 : decode cX9_takeState 20 = .ok (.ior, 1) := by decide +kernel
theorem dX9_takeState_21 : decode cX9_takeState 21 = .ok (.putfield 117, 3) := by decide +kernel
theorem dX9_takeState_24 : decode cX9_takeState 24 = .ok (.aload_n 0, 1) := by decide +kernel
theorem dX9_takeState_25 : decode cX9_takeState 25 = .ok (.bipush 11, 2) := by decide +kernel
theorem dX9_takeState_27 : decode cX9_takeState 27 = .ok (.invokevirtual 65, 3) := by decide +kernel
theorem dX9_takeState_30 : decode cX9_takeState 30 = .ok (.ireturn, 1) := by decide +kernel
theorem e_X9_takeState {X : gk_X} {F : Nat} {S : gk_S} {a : Nat} {p0 : Nat} {r : (Int32 × gk_S)} (h0 : f_X9_takeState F S a p0 = some r) : EvM X m_X9_takeState 7 0 0 [.ref a, .ref p0] S (qRI r) := by
  unfold f_X9_takeState at h0
  refine ev_method (by decide +kernel) rfl rfl (Nat.le_of_ble_eq_true rfl) ?_
  show EvW X m_X9_takeState 7 0 0 0 [some (.ref a), some (.ref p0), none] [] S _
  refine ev_aload_n (pc := 0) (i := 0) rfl rfl rfl dX9_takeState_0 ?_
  obtain ⟨g1, h2⟩ := qk_el h0; clear h0
  obtain ⟨x3, S4, e5, h6⟩ := qc_el h2; clear h2
  refine xv_callV (pc := 1) (st := []) (as := []) (v := (some (.int x3))) (S' := S4) ok_X9_stateHere (e_X9_stateHere e5) (isb_el g1) (by decide) rfl (Nat.le_of_ble_eq_true rfl) rfl gw_647 dX9_takeState_1 ?_
  refine ev_istore_n (pc := 4) (L' := [some (.ref a), some (.ref p0), some (.int x3)]) (i := 2) rfl (by decide) rfl rfl dX9_takeState_4 ?_
  refine ev_iload_n (pc := 5) (i := 2) rfl rfl dX9_takeState_5 ?_
  refine ev_iconst (pc := 6) (v := -1) (by decide) dX9_takeState_6 ?_
  refine ev_ic_ne (pc := 7) (tgt := 12) (by decide) dX9_takeState_7 (fun c7 => ?_) (fun c7 => ?_)
  · replace h6 := qi_f h6 c7
    refine ev_aload_n (pc := 12) (i := 1) rfl rfl rfl dX9_takeState_12 ?_
    refine ev_dup (pc := 13) (.inr rfl) dX9_takeState_13 ?_
    obtain ⟨g9, h10⟩ := qk_el h6; clear h6
    obtain ⟨x11, e12, h13⟩ := qv_el h10; clear h10
    refine xv_getIv (pc := 14) fn_302 (isb_el g9) e12 gw_71 dX9_takeState_14 ?_
    refine ev_iconst (pc := 17) (v := 1) (by decide) dX9_takeState_17 ?_
    refine ev_iload_n (pc := 18) (i := 2) rfl rfl dX9_takeState_18 ?_
    refine ev_ishl (pc := 19)  dX9_takeState_19 ?_
    refine ev_ior (pc := 20)  dX9_takeState_20 ?_
    obtain ⟨S14, e15, h16⟩ := qv_el h13; clear h13
    refine yv_putI (pc := 21) fn_302 ⟨rfl, rfl⟩ (isb_el g9) e15 gw_71 dX9_takeState_21 ?_
    refine ev_aload_n (pc := 24) (i := 0) rfl rfl rfl dX9_takeState_24 ?_
    refine ev_bipush (pc := 25) (v := 11) (by decide) dX9_takeState_25 ?_
    obtain ⟨g17, h18⟩ := qk_el h16; clear h16
    obtain ⟨x19, S20, e21, h22⟩ := qc_el h18; clear h18
    refine xv_callV (pc := 27) (st := []) (as := [.int 11]) (v := (some (.int x19))) (S' := S20) ok_X9_go (e_X9_go e21) (isb_el g17) (by decide) rfl (Nat.le_of_ble_eq_true rfl) rfl gw_555 dX9_takeState_27 ?_
    exact ev_ireturn (pc := 30) rfl (nar_int _) (qRI_eq h22) dX9_takeState_30
  · replace h6 := qi_t h6 c7
    refine ev_iconst (pc := 10) (v := 2) (by decide) dX9_takeState_10 ?_
    exact ev_ireturn (pc := 11) rfl (nar_int _) (qRI_eq h6) dX9_takeState_11
theorem dX9_take_0 : decode cX9_take 0 = .ok (.aload_n 0, 1) := by decide +kernel
theorem dX9_take_1 : decode cX9_take 1 = .ok (.getfield 35, 3) := by decide +kernel
theorem dX9_take_4 : decode cX9_take 4 = .ok (.tableswitch 237 1 11 #[60, 83, 89, 108, 237, 114, 127, 174, 187, 200, 213], 60) := by decide +kernel
theorem dX9_take_64 : decode cX9_take 64 = .ok (.aload_n 0, 1) := by decide +kernel
theorem dX9_take_65 : decode cX9_take 65 = .ok (.ldc 59, 2) := by decide +kernel
theorem dX9_take_67 : decode cX9_take 67 = .ok (.invokevirtual 61, 3) := by decide +kernel
theorem dX9_take_70 : decode cX9_take 70 = .ok (.ifCond .eq 11, 3) := by decide +kernel
theorem dX9_take_73 : decode cX9_take 73 = .ok (.aload_n 0, 1) := by decide +kernel
theorem dX9_take_74 : decode cX9_take 74 = .ok (.iconst 2, 1) := by decide +kernel
theorem dX9_take_75 : decode cX9_take 75 = .ok (.invokevirtual 65, 3) := by decide +kernel
theorem dX9_take_78 : decode cX9_take 78 = .ok (.goto 8, 3) := by decide +kernel
theorem dX9_take_81 : decode cX9_take 81 = .ok (.aload_n 0, 1) := by decide +kernel
theorem dX9_take_82 : decode cX9_take 82 = .ok (.aload_n 1, 1) := by decide +kernel
theorem dX9_take_83 : decode cX9_take 83 = .ok (.invokevirtual 69, 3) := by decide +kernel
theorem dX9_take_86 : decode cX9_take 86 = .ok (.ireturn, 1) := by decide +kernel
theorem dX9_take_87 : decode cX9_take 87 = .ok (.aload_n 0, 1) := by decide +kernel
theorem dX9_take_88 : decode cX9_take 88 = .ok (.aload_n 1, 1) := by decide +kernel
theorem dX9_take_89 : decode cX9_take 89 = .ok (.invokevirtual 72, 3) := by decide +kernel
theorem dX9_take_92 : decode cX9_take 92 = .ok (.ireturn, 1) := by decide +kernel
theorem dX9_take_93 : decode cX9_take 93 = .ok (.aload_n 0, 1) := by decide +kernel
theorem dX9_take_94 : decode cX9_take 94 = .ok (.getfield 22, 3) := by decide +kernel
theorem dX9_take_97 : decode cX9_take 97 = .ok (.bipush 59, 2) := by decide +kernel
theorem dX9_take_99 : decode cX9_take 99 = .ok (.if_icmp .ne 11, 3) := by decide +kernel
theorem dX9_take_102 : decode cX9_take 102 = .ok (.aload_n 0, 1) := by decide +kernel
theorem dX9_take_103 : decode cX9_take 103 = .ok (.iconst 4, 1) := by decide +kernel
theorem dX9_take_104 : decode cX9_take 104 = .ok (.invokevirtual 65, 3) := by decide +kernel
theorem dX9_take_107 : decode cX9_take 107 = .ok (.goto 4, 3) := by decide +kernel
theorem dX9_take_110 : decode cX9_take 110 = .ok (.iconst 2, 1) := by decide +kernel
theorem dX9_take_111 : decode cX9_take 111 = .ok (.ireturn, 1) := by decide +kernel
theorem dX9_take_112 : decode cX9_take 112 = .ok (.aload_n 0, 1) := by decide +kernel
theorem dX9_take_113 : decode cX9_take 113 = .ok (.aload_n 1, 1) := by decide +kernel
theorem dX9_take_114 : decode cX9_take 114 = .ok (.invokevirtual 69, 3) := by decide +kernel
theorem dX9_take_117 : decode cX9_take 117 = .ok (.ireturn, 1) := by decide +kernel
theorem dX9_take_118 : decode cX9_take 118 = .ok (.aload_n 0, 1) := by decide +kernel
theorem dX9_take_119 : decode cX9_take 119 = .ok (.aload_n 1, 1) := by decide +kernel
theorem dX9_take_120 : decode cX9_take 120 = .ok (.aload_n 1, 1) := by decide +kernel
theorem dX9_take_121 : decode cX9_take 121 = .ok (.getfield 75, 3) := by decide +kernel
theorem dX9_take_124 : decode cX9_take 124 = .ok (.invokevirtual 78, 3) := by decide +kernel
theorem dX9_take_127 : decode cX9_take 127 = .ok (.invokevirtual 82, 3) := by decide +kernel
theorem dX9_take_130 : decode cX9_take 130 = .ok (.ireturn, 1) := by decide +kernel
theorem dX9_take_131 : decode cX9_take 131 = .ok (.aload_n 0, 1) := by decide +kernel
theorem dX9_take_132 : decode cX9_take 132 = .ok (.getfield 22, 3) := by decide +kernel
theorem dX9_take_135 : decode cX9_take 135 = .ok (.bipush 45, 2) := by decide +kernel
theorem dX9_take_137 : decode cX9_take 137 = .ok (.if_icmp .ne 10, 3) := by decide +kernel
theorem dX9_take_140 : decode cX9_take 140 = .ok (.aload_n 0, 1) := by decide +kernel
theorem dX9_take_141 : decode cX9_take 141 = .ok (.bipush 8, 2) := by decide +kernel
theorem dX9_take_143 : decode cX9_take 143 = .ok (.invokevirtual 65, 3) := by decide +kernel
theorem dX9_take_146 : decode cX9_take 146 = .ok (.ireturn, 1) := by decide +kernel
theorem dX9_take_147 : decode cX9_take 147 = .ok (.aload_n 0, 1) := by decide +kernel
theorem dX9_take_148 : decode cX9_take 148 = .ok (.getfield 22, 3) := by decide +kernel
theorem dX9_take_151 : decode cX9_take 151 = .ok (.bipush 47, 2) := by decide +kernel
theorem dX9_take_153 : decode cX9_take 153 = .ok (.if_icmp .ne 19, 3) := by decide +kernel
theorem dX9_take_156 : decode cX9_take 156 = .ok (.aload_n 0, 1) := by decide +kernel
theorem dX9_take_157 : decode cX9_take 157 = .ok (.invokevirtual 86, 3) := by decide +kernel
theorem dX9_take_160 : decode cX9_take 160 = .ok (.ifCond .eq 12, 3) := by decide +kernel
theorem dX9_take_163 : decode cX9_take 163 = .ok (.aload_n 0, 1) := by decide +kernel
theorem dX9_take_164 : decode cX9_take 164 = .ok (.bipush 9, 2) := by decide +kernel
theorem dX9_take_166 : decode cX9_take 166 = .ok (.invokevirtual 65, 3) := by decide +kernel
theorem dX9_take_169 : decode cX9_take 169 = .ok (.goto 8, 3) := by decide +kernel
theorem dX9_take_172 : decode cX9_take 172 = .ok (.aload_n 0, 1) := by decide +kernel
theorem dX9_take_173 : decode cX9_take 173 = .ok (.aload_n 1, 1) := by decide +kernel
theorem dX9_take_174 : decode cX9_take 174 = .ok (.invokevirtual 90, 3) := by decide +kernel
theorem dX9_take_177 : decode cX9_take 177 = .ok (.ireturn, 1) := by decide +kernel
theorem dX9_take_178 : decode cX9_take 178 = .ok (.aload_n 0, 1) := by decide +kernel
theorem dX9_take_179 : decode cX9_take 179 = .ok (.aload_n 1, 1) := by decide +kernel
theorem dX9_take_180 : decode cX9_take 180 = .ok (.aload_n 1, 1) := by decide +kernel
theorem dX9_take_181 : decode cX9_take 181 = .ok (.getfield 75, 3) := by decide +kernel
theorem dX9_take_184 : decode cX9_take 184 = .ok (.invokevirtual 78, 3) := by decide +kernel
theorem dX9_take_187 : decode cX9_take 187 = .ok (.invokevirtual 93, 3) := by decide +kernel
theorem dX9_take_190 : decode cX9_take 190 = .ok (.ireturn, 1) := by decide +kernel
theorem dX9_take_191 : decode cX9_take 191 = .ok (.aload_n 0, 1) := by decide +kernel
theorem dX9_take_192 : decode cX9_take 192 = .ok (.aload_n 1, 1) := by decide +kernel
theorem dX9_take_193 : decode cX9_take 193 = .ok (.aload_n 1, 1) := by decide +kernel
theorem dX9_take_194 : decode cX9_take 194 = .ok (.getfield 75, 3) := by decide +kernel
theorem dX9_take_197 : decode cX9_take 197 = .ok (.invokevirtual 78, 3) := by decide +kernel
theorem dX9_take_200 : decode cX9_take 200 = .ok (.invokevirtual 96, 3) := by decide +kernel
theorem dX9_take_203 : decode cX9_take 203 = .ok (.ireturn, 1) := by decide +kernel
theorem dX9_take_204 : decode cX9_take 204 = .ok (.aload_n 0, 1) := by decide +kernel
theorem dX9_take_205 : decode cX9_take 205 = .ok (.aload_n 1, 1) := by decide +kernel
theorem dX9_take_206 : decode cX9_take 206 = .ok (.aload_n 1, 1) := by decide +kernel
theorem dX9_take_207 : decode cX9_take 207 = .ok (.getfield 75, 3) := by decide +kernel
theorem dX9_take_210 : decode cX9_take 210 = .ok (.invokevirtual 78, 3) := by decide +kernel
theorem dX9_take_213 : decode cX9_take 213 = .ok (.invokevirtual 99, 3) := by decide +kernel
theorem dX9_take_216 : decode cX9_take 216 = .ok (.ireturn, 1) := by decide +kernel
theorem dX9_take_217 : decode cX9_take 217 = .ok (.aload_n 0, 1) := by decide +kernel
theorem dX9_take_218 : decode cX9_take 218 = .ok (.getfield 22, 3) := by decide +kernel
theorem dX9_take_221 : decode cX9_take 221 = .ok (.bipush 44, 2) := by decide +kernel
theorem dX9_take_223 : decode cX9_take 223 = .ok (.if_icmp .ne 12, 3) := by decide +kernel
theorem dX9_take_226 : decode cX9_take 226 = .ok (.aload_n 0, 1) := by decide +kernel
theorem dX9_take_227 : decode cX9_take 227 = .ok (.bipush 10, 2) := by decide +kernel
theorem dX9_take_229 : decode cX9_take 229 = .ok (.invokevirtual 65, 3) := by decide +kernel
theorem dX9_take_232 : decode cX9_take 232 = .ok (.goto 8, 3) := by decide +kernel
theorem dX9_take_235 : decode cX9_take 235 = .ok (.aload_n 0, 1) := by decide +kernel
theorem dX9_take_236 : decode cX9_take 236 = .ok (.aload_n 1, 1) := by decide +kernel
theorem dX9_take_237 : decode cX9_take 237 = .ok (.invokevirtual 90, 3) := by decide +kernel
theorem dX9_take_240 : decode cX9_take 240 = .ok (.ireturn, 1) := by decide +kernel
theorem dX9_take_241 : decode cX9_take 241 = .ok (.aload_n 0, 1) := by decide +kernel
theorem dX9_take_242 : decode cX9_take 242 = .ok (.aload_n 1, 1) := by decide +kernel
theorem dX9_take_243 : decode cX9_take 243 = .ok (.invokevirtual 90, 3) := by decide +kernel
theorem dX9_take_246 : decode cX9_take 246 = .ok (.ireturn, 1) := by decide +kernel
theorem e_X9_take_172 {X : gk_X} {F : Nat} {l0 : Nat} {l1 : Nat} {S : gk_S} {r : (Int32 × gk_S)} (h0 : f_X9_take_172 F l0 l1 S = some r) : EvW X m_X9_take 8 0 0 172 [some (.ref l0), some (.ref l1)] [] S (qRI r) := by
  unfold f_X9_take_172 at h0
  refine ev_aload_n (pc := 172) (i := 0) rfl rfl rfl dX9_take_172 ?_
  refine ev_aload_n (pc := 173) (i := 1) rfl rfl rfl dX9_take_173 ?_
  obtain ⟨g77, h78⟩ := qk_el h0; clear h0
  obtain ⟨x79, S80, e81, h82⟩ := qc_el h78; clear h78
  refine xv_callV (pc := 174) (st := []) (as := [.ref l1]) (v := (some (.int x79))) (S' := S80) ok_X9_takePart (e_X9_takePart e81) (isb_el g77) (by decide) rfl (Nat.le_of_ble_eq_true rfl) rfl gw_615 dX9_take_174 ?_
  exact ev_ireturn (pc := 177) rfl (nar_int _) (qRI_eq h82) dX9_take_177
theorem e_X9_take {X : gk_X} {F : Nat} {S : gk_S} {a : Nat} {p0 : Nat} {r : (Int32 × gk_S)} (h0 : f_X9_take F S a p0 = some r) : EvM X m_X9_take 8 0 0 [.ref a, .ref p0] S (qRI r) := by
  unfold f_X9_take at h0
  refine ev_method (by decide +kernel) rfl rfl (Nat.le_of_ble_eq_true rfl) ?_
  show EvW X m_X9_take 8 0 0 0 [some (.ref a), some (.ref p0)] [] S _
  refine ev_aload_n (pc := 0) (i := 0) rfl rfl rfl dX9_take_0 ?_
  obtain ⟨g1, h2⟩ := qk_el h0; clear h0
  obtain ⟨x3, e4, h5⟩ := qv_el h2; clear h2
  refine xv_getIv (pc := 1) fn_707 (isb_el g1) e4 gw_127 dX9_take_1 ?_
  by_cases c6 : x3 = 1
  · refine ev_tableIn (pc := 4) (off := 60) (tgt := 64) (by rw [c6]; decide) (by rw [c6]; decide) (by rw [c6]; rfl) (by decide) dX9_take_4 ?_
    replace h5 := qi_t h5 c6
    refine ev_aload_n (pc := 64) (i := 0) rfl rfl rfl dX9_take_64 ?_
    refine ev_ldcS (pc := 65) (i := 1) (by decide) rfl rfl dX9_take_65 ?_
    obtain ⟨x7, S8, e9, h10⟩ := qc_el h5; clear h5
    refine xv_callV (pc := 67) (st := []) (as := [.retAddr (10 + 1)]) (v := (some (.int x7))) (S' := S8) ok_X9_isWord (e_X9_isWord e9) (isb_el g1) (by decide) rfl (Nat.le_of_ble_eq_true rfl) rfl gw_503 dX9_take_67 ?_
    refine ev_if_eq (pc := 70) (tgt := 81) (by decide) dX9_take_70 (fun c11 => ?_) (fun c11 => ?_)
    · replace h10 := qi_t h10 c11
      refine ev_aload_n (pc := 81) (i := 0) rfl rfl rfl dX9_take_81 ?_
      refine ev_aload_n (pc := 82) (i := 1) rfl rfl rfl dX9_take_82 ?_
      obtain ⟨g13, h14⟩ := qk_el h10; clear h10
      obtain ⟨x15, S16, e17, h18⟩ := qc_el h14; clear h14
      refine xv_callV (pc := 83) (st := []) (as := [.ref p0]) (v := (some (.int x15))) (S' := S16) ok_X9_takeRule (e_X9_takeRule e17) (isb_el g13) (by decide) rfl (Nat.le_of_ble_eq_true rfl) rfl gw_559 dX9_take_83 ?_
      exact ev_ireturn (pc := 86) rfl (nar_int _) (qRI_eq h18) dX9_take_86
    · replace h10 := qi_f h10 c11
      refine ev_aload_n (pc := 73) (i := 0) rfl rfl rfl dX9_take_73 ?_
      refine ev_iconst (pc := 74) (v := 2) (by decide) dX9_take_74 ?_
      obtain ⟨g19, h20⟩ := qk_el h10; clear h10
      obtain ⟨x21, S22, e23, h24⟩ := qc_el h20; clear h20
      refine xv_callV (pc := 75) (st := []) (as := [.int 2]) (v := (some (.int x21))) (S' := S22) ok_X9_go (e_X9_go e23) (isb_el g19) (by decide) rfl (Nat.le_of_ble_eq_true rfl) rfl gw_555 dX9_take_75 ?_
      refine ev_goto (pc := 78) (tgt := 86) (by decide) dX9_take_78 ?_
      exact ev_ireturn (pc := 86) rfl (nar_int _) (qRI_eq h24) dX9_take_86
  replace h5 := qi_f h5 c6
  by_cases c25 : x3 = 2
  · refine ev_tableIn (pc := 4) (off := 83) (tgt := 87) (by rw [c25]; decide) (by rw [c25]; decide) (by rw [c25]; rfl) (by decide) dX9_take_4 ?_
    replace h5 := qi_t h5 c25
    refine ev_aload_n (pc := 87) (i := 0) rfl rfl rfl dX9_take_87 ?_
    refine ev_aload_n (pc := 88) (i := 1) rfl rfl rfl dX9_take_88 ?_
    obtain ⟨x26, S27, e28, h29⟩ := qc_el h5; clear h5
    refine xv_callV (pc := 89) (st := []) (as := [.ref p0]) (v := (some (.int x26))) (S' := S27) ok_X9_takePolicy (e_X9_takePolicy e28) (isb_el g1) (by decide) rfl (Nat.le_of_ble_eq_true rfl) rfl gw_583 dX9_take_89 ?_
    exact ev_ireturn (pc := 92) rfl (nar_int _) (qRI_eq h29) dX9_take_92
  replace h5 := qi_f h5 c25
  by_cases c30 : x3 = 3
  · refine ev_tableIn (pc := 4) (off := 89) (tgt := 93) (by rw [c30]; decide) (by rw [c30]; decide) (by rw [c30]; rfl) (by decide) dX9_take_4 ?_
    replace h5 := qi_t h5 c30
    refine ev_aload_n (pc := 93) (i := 0) rfl rfl rfl dX9_take_93 ?_
    obtain ⟨x31, e32, h33⟩ := qv_el h5; clear h5
    refine xv_getIv (pc := 94) fn_703 (isb_el g1) e32 gw_123 dX9_take_94 ?_
    refine ev_bipush (pc := 97) (v := 59) (by decide) dX9_take_97 ?_
    refine ev_ic_ne (pc := 99) (tgt := 110) (by decide) dX9_take_99 (fun c34 => ?_) (fun c34 => ?_)
    · replace h33 := qi_f h33 c34
      refine ev_iconst (pc := 110) (v := 2) (by decide) dX9_take_110 ?_
      exact ev_ireturn (pc := 111) rfl (nar_int _) (qRI_eq h33) dX9_take_111
    · replace h33 := qi_t h33 c34
      refine ev_aload_n (pc := 102) (i := 0) rfl rfl rfl dX9_take_102 ?_
      refine ev_iconst (pc := 103) (v := 4) (by decide) dX9_take_103 ?_
      obtain ⟨x36, S37, e38, h39⟩ := qc_el h33; clear h33
      refine xv_callV (pc := 104) (st := []) (as := [.int 4]) (v := (some (.int x36))) (S' := S37) ok_X9_go (e_X9_go e38) (isb_el g1) (by decide) rfl (Nat.le_of_ble_eq_true rfl) rfl gw_555 dX9_take_104 ?_
      refine ev_goto (pc := 107) (tgt := 111) (by decide) dX9_take_107 ?_
      exact ev_ireturn (pc := 111) rfl (nar_int _) (qRI_eq h39) dX9_take_111
  replace h5 := qi_f h5 c30
  by_cases c40 : x3 = 4
  · refine ev_tableIn (pc := 4) (off := 108) (tgt := 112) (by rw [c40]; decide) (by rw [c40]; decide) (by rw [c40]; rfl) (by decide) dX9_take_4 ?_
    replace h5 := qi_t h5 c40
    refine ev_aload_n (pc := 112) (i := 0) rfl rfl rfl dX9_take_112 ?_
    refine ev_aload_n (pc := 113) (i := 1) rfl rfl rfl dX9_take_113 ?_
    obtain ⟨x41, S42, e43, h44⟩ := qc_el h5; clear h5
    refine xv_callV (pc := 114) (st := []) (as := [.ref p0]) (v := (some (.int x41))) (S' := S42) ok_X9_takeRule (e_X9_takeRule e43) (isb_el g1) (by decide) rfl (Nat.le_of_ble_eq_true rfl) rfl gw_559 dX9_take_114 ?_
    exact ev_ireturn (pc := 117) rfl (nar_int _) (qRI_eq h44) dX9_take_117
  replace h5 := qi_f h5 c40
  by_cases c45 : x3 = 5
  · refine ev_tableIn (pc := 4) (off := 237) (tgt := 241) (by rw [c45]; decide) (by rw [c45]; decide) (by rw [c45]; rfl) (by decide) dX9_take_4 ?_
    replace h5 := qi_t h5 c45
    refine ev_aload_n (pc := 241) (i := 0) rfl rfl rfl dX9_take_241 ?_
    refine ev_aload_n (pc := 242) (i := 1) rfl rfl rfl dX9_take_242 ?_
    obtain ⟨x46, S47, e48, h49⟩ := qc_el h5; clear h5
    refine xv_callV (pc := 243) (st := []) (as := [.ref p0]) (v := (some (.int x46))) (S' := S47) ok_X9_takePart (e_X9_takePart e48) (isb_el g1) (by decide) rfl (Nat.le_of_ble_eq_true rfl) rfl gw_615 dX9_take_243 ?_
    exact ev_ireturn (pc := 246) rfl (nar_int _) (qRI_eq h49) dX9_take_246
  replace h5 := qi_f h5 c45
  by_cases c50 : x3 = 6
  · refine ev_tableIn (pc := 4) (off := 114) (tgt := 118) (by rw [c50]; decide) (by rw [c50]; decide) (by rw [c50]; rfl) (by decide) dX9_take_4 ?_
    replace h5 := qi_t h5 c50
    refine ev_aload_n (pc := 118) (i := 0) rfl rfl rfl dX9_take_118 ?_
    refine ev_aload_n (pc := 119) (i := 1) rfl rfl rfl dX9_take_119 ?_
    refine ev_aload_n (pc := 120) (i := 1) rfl rfl rfl dX9_take_120 ?_
    obtain ⟨g51, h52⟩ := qk_el h5; clear h5
    obtain ⟨x53, e54, h55⟩ := qv_el h52; clear h52
    refine xv_getIv (pc := 121) fn_401 (isb_el g51) e54 gw_94 dX9_take_121 ?_
    obtain ⟨x56, S57, e58, h59⟩ := qc_el h55; clear h55
    refine xv_callV (pc := 124) (st := [.ref a]) (as := [.int x53]) (v := (some (.ref x56))) (S' := S57) ok_X6_at (e_X6_at e58) (isb_el g51) (by decide) rfl (Nat.le_of_ble_eq_true rfl) rfl gw_573 dX9_take_124 ?_
    obtain ⟨g60, h61⟩ := qk_el h59; clear h59
    obtain ⟨x62, S63, e64, h65⟩ := qc_el h61; clear h61
    refine xv_callV (pc := 127) (st := []) (as := [.ref x56]) (v := (some (.int x62))) (S' := S63) ok_X9_takeValue (e_X9_takeValue e64) (isb_el g60) (by decide) rfl (Nat.le_of_ble_eq_true rfl) rfl gw_587 dX9_take_127 ?_
    exact ev_ireturn (pc := 130) rfl (nar_int _) (qRI_eq h65) dX9_take_130
  replace h5 := qi_f h5 c50
  by_cases c66 : x3 = 7
  · refine ev_tableIn (pc := 4) (off := 127) (tgt := 131) (by rw [c66]; decide) (by rw [c66]; decide) (by rw [c66]; rfl) (by decide) dX9_take_4 ?_
    replace h5 := qi_t h5 c66
    refine ev_aload_n (pc := 131) (i := 0) rfl rfl rfl dX9_take_131 ?_
    obtain ⟨x67, e68, h69⟩ := qv_el h5; clear h5
    refine xv_getIv (pc := 132) fn_703 (isb_el g1) e68 gw_123 dX9_take_132 ?_
    refine ev_bipush (pc := 135) (v := 45) (by decide) dX9_take_135 ?_
    refine ev_ic_ne (pc := 137) (tgt := 147) (by decide) dX9_take_137 (fun c70 => ?_) (fun c70 => ?_)
    · replace h69 := qi_f h69 c70
      refine ev_aload_n (pc := 147) (i := 0) rfl rfl rfl dX9_take_147 ?_
      obtain ⟨x72, e73, h74⟩ := qv_el h69; clear h69
      refine xv_getIv (pc := 148) fn_703 (isb_el g1) e73 gw_123 dX9_take_148 ?_
      refine ev_bipush (pc := 151) (v := 47) (by decide) dX9_take_151 ?_
      refine ev_ic_ne (pc := 153) (tgt := 172) (by decide) dX9_take_153 (fun c75 => ?_) (fun c75 => ?_)
      · replace h74 := qi_f h74 c75
        exact ev_weak (qL_s (qL_s qL_nil)) (e_X9_take_172 h74)
      · replace h74 := qi_t h74 c75
        refine ev_aload_n (pc := 156) (i := 0) rfl rfl rfl dX9_take_156 ?_
        obtain ⟨x83, S84, e85, h86⟩ := qc_el h74; clear h74
        refine xv_callV (pc := 157) (st := []) (as := []) (v := (some (.int x83))) (S' := S84) ok_X9_isAddressPart (e_X9_isAddressPart e85) (isb_el g1) (by decide) rfl (Nat.le_of_ble_eq_true rfl) rfl gw_606 dX9_take_157 ?_
        refine ev_if_eq (pc := 160) (tgt := 172) (by decide) dX9_take_160 (fun c87 => ?_) (fun c87 => ?_)
        · replace h86 := qi_t h86 c87
          exact ev_weak (qL_s (qL_s qL_nil)) (e_X9_take_172 h86)
        · replace h86 := qi_f h86 c87
          refine ev_aload_n (pc := 163) (i := 0) rfl rfl rfl dX9_take_163 ?_
          refine ev_bipush (pc := 164) (v := 9) (by decide) dX9_take_164 ?_
          obtain ⟨g89, h90⟩ := qk_el h86; clear h86
          obtain ⟨x91, S92, e93, h94⟩ := qc_el h90; clear h90
          refine xv_callV (pc := 166) (st := []) (as := [.int 9]) (v := (some (.int x91))) (S' := S92) ok_X9_go (e_X9_go e93) (isb_el g89) (by decide) rfl (Nat.le_of_ble_eq_true rfl) rfl gw_555 dX9_take_166 ?_
          refine ev_goto (pc := 169) (tgt := 177) (by decide) dX9_take_169 ?_
          exact ev_ireturn (pc := 177) rfl (nar_int _) (qRI_eq h94) dX9_take_177
    · replace h69 := qi_t h69 c70
      refine ev_aload_n (pc := 140) (i := 0) rfl rfl rfl dX9_take_140 ?_
      refine ev_bipush (pc := 141) (v := 8) (by decide) dX9_take_141 ?_
      obtain ⟨x95, S96, e97, h98⟩ := qc_el h69; clear h69
      refine xv_callV (pc := 143) (st := []) (as := [.int 8]) (v := (some (.int x95))) (S' := S96) ok_X9_go (e_X9_go e97) (isb_el g1) (by decide) rfl (Nat.le_of_ble_eq_true rfl) rfl gw_555 dX9_take_143 ?_
      exact ev_ireturn (pc := 146) rfl (nar_int _) (qRI_eq h98) dX9_take_146
  replace h5 := qi_f h5 c66
  by_cases c99 : x3 = 8
  · refine ev_tableIn (pc := 4) (off := 174) (tgt := 178) (by rw [c99]; decide) (by rw [c99]; decide) (by rw [c99]; rfl) (by decide) dX9_take_4 ?_
    replace h5 := qi_t h5 c99
    refine ev_aload_n (pc := 178) (i := 0) rfl rfl rfl dX9_take_178 ?_
    refine ev_aload_n (pc := 179) (i := 1) rfl rfl rfl dX9_take_179 ?_
    refine ev_aload_n (pc := 180) (i := 1) rfl rfl rfl dX9_take_180 ?_
    obtain ⟨g100, h101⟩ := qk_el h5; clear h5
    obtain ⟨x102, e103, h104⟩ := qv_el h101; clear h101
    refine xv_getIv (pc := 181) fn_401 (isb_el g100) e103 gw_94 dX9_take_181 ?_
    obtain ⟨x105, S106, e107, h108⟩ := qc_el h104; clear h104
    refine xv_callV (pc := 184) (st := [.ref a]) (as := [.int x102]) (v := (some (.ref x105))) (S' := S106) ok_X6_at (e_X6_at e107) (isb_el g100) (by decide) rfl (Nat.le_of_ble_eq_true rfl) rfl gw_573 dX9_take_184 ?_
    obtain ⟨g109, h110⟩ := qk_el h108; clear h108
    obtain ⟨x111, S112, e113, h114⟩ := qc_el h110; clear h110
    refine xv_callV (pc := 187) (st := []) (as := [.ref x105]) (v := (some (.int x111))) (S' := S112) ok_X9_takeLastValue (e_X9_takeLastValue e113) (isb_el g109) (by decide) rfl (Nat.le_of_ble_eq_true rfl) rfl gw_633 dX9_take_187 ?_
    exact ev_ireturn (pc := 190) rfl (nar_int _) (qRI_eq h114) dX9_take_190
  replace h5 := qi_f h5 c99
  by_cases c115 : x3 = 9
  · refine ev_tableIn (pc := 4) (off := 187) (tgt := 191) (by rw [c115]; decide) (by rw [c115]; decide) (by rw [c115]; rfl) (by decide) dX9_take_4 ?_
    replace h5 := qi_t h5 c115
    refine ev_aload_n (pc := 191) (i := 0) rfl rfl rfl dX9_take_191 ?_
    refine ev_aload_n (pc := 192) (i := 1) rfl rfl rfl dX9_take_192 ?_
    refine ev_aload_n (pc := 193) (i := 1) rfl rfl rfl dX9_take_193 ?_
    obtain ⟨g116, h117⟩ := qk_el h5; clear h5
    obtain ⟨x118, e119, h120⟩ := qv_el h117; clear h117
    refine xv_getIv (pc := 194) fn_401 (isb_el g116) e119 gw_94 dX9_take_194 ?_
    obtain ⟨x121, S122, e123, h124⟩ := qc_el h120; clear h120
    refine xv_callV (pc := 197) (st := [.ref a]) (as := [.int x118]) (v := (some (.ref x121))) (S' := S122) ok_X6_at (e_X6_at e123) (isb_el g116) (by decide) rfl (Nat.le_of_ble_eq_true rfl) rfl gw_573 dX9_take_197 ?_
    obtain ⟨g125, h126⟩ := qk_el h124; clear h124
    obtain ⟨x127, S128, e129, h130⟩ := qc_el h126; clear h126
    refine xv_callV (pc := 200) (st := []) (as := [.ref x121]) (v := (some (.int x127))) (S' := S128) ok_X9_takeBits (e_X9_takeBits e129) (isb_el g125) (by decide) rfl (Nat.le_of_ble_eq_true rfl) rfl gw_637 dX9_take_200 ?_
    exact ev_ireturn (pc := 203) rfl (nar_int _) (qRI_eq h130) dX9_take_203
  replace h5 := qi_f h5 c115
  by_cases c131 : x3 = 10
  · refine ev_tableIn (pc := 4) (off := 200) (tgt := 204) (by rw [c131]; decide) (by rw [c131]; decide) (by rw [c131]; rfl) (by decide) dX9_take_4 ?_
    replace h5 := qi_t h5 c131
    refine ev_aload_n (pc := 204) (i := 0) rfl rfl rfl dX9_take_204 ?_
    refine ev_aload_n (pc := 205) (i := 1) rfl rfl rfl dX9_take_205 ?_
    refine ev_aload_n (pc := 206) (i := 1) rfl rfl rfl dX9_take_206 ?_
    obtain ⟨g132, h133⟩ := qk_el h5; clear h5
    obtain ⟨x134, e135, h136⟩ := qv_el h133; clear h133
    refine xv_getIv (pc := 207) fn_401 (isb_el g132) e135 gw_94 dX9_take_207 ?_
    obtain ⟨x137, S138, e139, h140⟩ := qc_el h136; clear h136
    refine xv_callV (pc := 210) (st := [.ref a]) (as := [.int x134]) (v := (some (.ref x137))) (S' := S138) ok_X6_at (e_X6_at e139) (isb_el g132) (by decide) rfl (Nat.le_of_ble_eq_true rfl) rfl gw_573 dX9_take_210 ?_
    obtain ⟨g141, h142⟩ := qk_el h140; clear h140
    obtain ⟨x143, S144, e145, h146⟩ := qc_el h142; clear h142
    refine xv_callV (pc := 213) (st := []) (as := [.ref x137]) (v := (some (.int x143))) (S' := S144) ok_X9_takeState (e_X9_takeState e145) (isb_el g141) (by decide) rfl (Nat.le_of_ble_eq_true rfl) rfl gw_643 dX9_take_213 ?_
    exact ev_ireturn (pc := 216) rfl (nar_int _) (qRI_eq h146) dX9_take_216
  replace h5 := qi_f h5 c131
  by_cases c147 : x3 = 11
  · refine ev_tableIn (pc := 4) (off := 213) (tgt := 217) (by rw [c147]; decide) (by rw [c147]; decide) (by rw [c147]; rfl) (by decide) dX9_take_4 ?_
    replace h5 := qi_t h5 c147
    refine ev_aload_n (pc := 217) (i := 0) rfl rfl rfl dX9_take_217 ?_
    obtain ⟨x148, e149, h150⟩ := qv_el h5; clear h5
    refine xv_getIv (pc := 218) fn_703 (isb_el g1) e149 gw_123 dX9_take_218 ?_
    refine ev_bipush (pc := 221) (v := 44) (by decide) dX9_take_221 ?_
    refine ev_ic_ne (pc := 223) (tgt := 235) (by decide) dX9_take_223 (fun c151 => ?_) (fun c151 => ?_)
    · replace h150 := qi_f h150 c151
      refine ev_aload_n (pc := 235) (i := 0) rfl rfl rfl dX9_take_235 ?_
      refine ev_aload_n (pc := 236) (i := 1) rfl rfl rfl dX9_take_236 ?_
      obtain ⟨x153, S154, e155, h156⟩ := qc_el h150; clear h150
      refine xv_callV (pc := 237) (st := []) (as := [.ref p0]) (v := (some (.int x153))) (S' := S154) ok_X9_takePart (e_X9_takePart e155) (isb_el g1) (by decide) rfl (Nat.le_of_ble_eq_true rfl) rfl gw_615 dX9_take_237 ?_
      exact ev_ireturn (pc := 240) rfl (nar_int _) (qRI_eq h156) dX9_take_240
    · replace h150 := qi_t h150 c151
      refine ev_aload_n (pc := 226) (i := 0) rfl rfl rfl dX9_take_226 ?_
      refine ev_bipush (pc := 227) (v := 10) (by decide) dX9_take_227 ?_
      obtain ⟨x157, S158, e159, h160⟩ := qc_el h150; clear h150
      refine xv_callV (pc := 229) (st := []) (as := [.int 10]) (v := (some (.int x157))) (S' := S158) ok_X9_go (e_X9_go e159) (isb_el g1) (by decide) rfl (Nat.le_of_ble_eq_true rfl) rfl gw_555 dX9_take_229 ?_
      refine ev_goto (pc := 232) (tgt := 240) (by decide) dX9_take_232 ?_
      exact ev_ireturn (pc := 240) rfl (nar_int _) (qRI_eq h160) dX9_take_240
  replace h5 := qi_f h5 c147
  refine ev_tableOut (pc := 4) (tgt := 241) (by have z1 := ti_ne c6 (n := 1) rfl; have z2 := ti_ne c25 (n := 2) rfl; have z3 := ti_ne c30 (n := 3) rfl; have z4 := ti_ne c40 (n := 4) rfl; have z5 := ti_ne c45 (n := 5) rfl; have z6 := ti_ne c50 (n := 6) rfl; have z7 := ti_ne c66 (n := 7) rfl; have z8 := ti_ne c99 (n := 8) rfl; have z9 := ti_ne c115 (n := 9) rfl; have z10 := ti_ne c131 (n := 10) rfl; have z11 := ti_ne c147 (n := 11) rfl; omega) (by decide) dX9_take_4 ?_
  refine ev_aload_n (pc := 241) (i := 0) rfl rfl rfl dX9_take_241 ?_
  refine ev_aload_n (pc := 242) (i := 1) rfl rfl rfl dX9_take_242 ?_
  obtain ⟨x161, S162, e163, h164⟩ := qc_el h5; clear h5
  refine xv_callV (pc := 243) (st := []) (as := [.ref p0]) (v := (some (.int x161))) (S' := S162) ok_X9_takePart (e_X9_takePart e163) (isb_el g1) (by decide) rfl (Nat.le_of_ble_eq_true rfl) rfl gw_615 dX9_take_243 ?_
  exact ev_ireturn (pc := 246) rfl (nar_int _) (qRI_eq h164) dX9_take_246
theorem dX9_read_0 : decode cX9_read 0 = .ok (.aload_n 0, 1) := by decide +kernel
theorem dX9_read_1 : decode cX9_read 1 = .ok (.iconst 0, 1) := by decide +kernel
theorem dX9_read_2 : decode cX9_read 2 = .ok (.putfield 15, 3) := by decide +kernel
theorem dX9_read_5 : decode cX9_read 5 = .ok (.aload_n 0, 1) := by decide +kernel
theorem dX9_read_6 : decode cX9_read 6 = .ok (.iconst 0, 1) := by decide +kernel
theorem dX9_read_7 : decode cX9_read 7 = .ok (.putfield 28, 3) := by decide +kernel
theorem dX9_read_10 : decode cX9_read 10 = .ok (.aload_n 0, 1) := by decide +kernel
theorem dX9_read_11 : decode cX9_read 11 = .ok (.iconst 1, 1) := by decide +kernel
theorem dX9_read_12 : decode cX9_read 12 = .ok (.putfield 35, 3) := by decide +kernel
theorem dX9_read_15 : decode cX9_read 15 = .ok (.aload_n 1, 1) := by decide +kernel
theorem dX9_read_16 : decode cX9_read 16 = .ok (.invokevirtual 47, 3) := by decide +kernel
theorem dX9_read_19 : decode cX9_read 19 = .ok (.iconst 0, 1) := by decide +kernel
theorem dX9_read_20 : decode cX9_read 20 = .ok (.istore_n 2, 1) := by decide +kernel
theorem dX9_read_21 : decode cX9_read 21 = .ok (.iload_n 2, 1) := by decide +kernel
theorem dX9_read_22 : decode cX9_read 22 = .ok (.sipush 2100, 3) := by decide +kernel
theorem dX9_read_25 : decode cX9_read 25 = .ok (.if_icmp .gt 74, 3) := by decide +kernel
theorem dX9_read_28 : decode cX9_read 28 = .ok (.aload_n 0, 1) := by decide +kernel
theorem dX9_read_29 : decode cX9_read 29 = .ok (.getfield 35, 3) := by decide +kernel
theorem dX9_read_32 : decode cX9_read 32 = .ok (.ifCond .eq 67, 3) := by decide +kernel
theorem dX9_read_35 : decode cX9_read 35 = .ok (.aload_n 0, 1) := by decide +kernel
theorem dX9_read_36 : decode cX9_read 36 = .ok (.invokevirtual 52, 3) := by decide +kernel
theorem dX9_read_39 : decode cX9_read 39 = .ok (.aload_n 0, 1) := by decide +kernel
theorem dX9_read_40 : decode cX9_read 40 = .ok (.aload_n 0, 1) := by decide +kernel
theorem dX9_read_41 : decode cX9_read 41 = .ok (.getfield 22, 3) := by decide +kernel
theorem dX9_read_44 : decode cX9_read 44 = .ok (.sipush 260, 3) := by decide +kernel
theorem dX9_read_47 : decode cX9_read 47 = .ok (.if_icmp .ne 7, 3) := by decide +kernel
theorem dX9_read_50 : decode cX9_read 50 = .ok (.iconst 1, 1) := by decide +kernel
theorem dX9_read_51 : decode cX9_read 51 = .ok (.goto 22, 3) := by decide +kernel
theorem dX9_read_54 : decode cX9_read 54 = .ok (.aload_n 0, 1) := by decide +kernel
theorem dX9_read_55 : decode cX9_read 55 = .ok (.getfield 22, 3) := by decide +kernel
theorem dX9_read_58 : decode cX9_read 58 = .ok (.sipush 261, 3) := by decide +kernel
theorem dX9_read_61 : decode cX9_read 61 = .ok (.if_icmp .ne 7, 3) := by decide +kernel
theorem dX9_read_64 : decode cX9_read 64 = .ok (.iconst 4, 1) := by decide +kernel
theorem dX9_read_65 : decode cX9_read 65 = .ok (.goto 8, 3) := by decide +kernel
theorem dX9_read_68 : decode cX9_read 68 = .ok (.aload_n 0, 1) := by decide +kernel
theorem dX9_read_69 : decode cX9_read 69 = .ok (.aload_n 1, 1) := by decide +kernel
theorem dX9_read_70 : decode cX9_read 70 = .ok (.invokevirtual 55, 3) := by decide +kernel
theorem dX9_read_73 : decode cX9_read 73 = .ok (.putfield 15, 3) := by decide +kernel
theorem dX9_read_76 : decode cX9_read 76 = .ok (.aload_n 0, 1) := by decide +kernel
theorem dX9_read_77 : decode cX9_read 77 = .ok (.getfield 15, 3) := by decide +kernel
theorem dX9_read_80 : decode cX9_read 80 = .ok (.ifCond .eq 13, 3) := by decide +kernel
theorem dX9_read_83 : decode cX9_read 83 = .ok (.aload_n 0, 1) := by decide +kernel
theorem dX9_read_84 : decode cX9_read 84 = .ok (.aload_n 0, 1) := by decide +kernel
theorem dX9_read_85 : decode cX9_read 85 = .ok (.getfield 25, 3) := by decide +kernel
theorem dX9_read_88 : decode cX9_read 88 = .ok (.putfield 19, 3) := by decide +kernel
theorem dX9_read_91 : decode cX9_read 91 = .ok (.iconst 0, 1) := by decide +kernel
theorem dX9_read_92 : decode cX9_read 92 = .ok (.ireturn, 1) := by decide +kernel
theorem dX9_read_93 : decode cX9_read 93 = .ok (.iinc 2 1, 3) := by decide +kernel
theorem dX9_read_96 : decode cX9_read 96 = .ok (.goto (-75), 3) := by decide +kernel
theorem dX9_read_99 : decode cX9_read 99 = .ok (.iconst 1, 1) := by decide +kernel
theorem dX9_read_100 : decode cX9_read 100 = .ok (.ireturn, 1) := by decide +kernel
theorem e_X9_read_73 {X : gk_X} {F : Nat} {k21 : Nat → Nat → Int32 → gk_S → Option (Int32 × gk_S)} (hk21 : ∀ (l0 : Nat) (l1 : Nat) (l2 : Int32) (S : gk_S) (r : (Int32 × gk_S)), k21 l0 l1 l2 S = some r → EvW X m_X9_read 9 0 0 21 [some (.ref l0), some (.ref l1), some (.int l2)] [] S (qRI r)) {l0 : Nat} {l1 : Nat} {l2 : Int32} {s0 : Int32} {s1 : Nat} {S : gk_S} {r : (Int32 × gk_S)} (h0 : f_X9_read_73 F k21 l0 l1 l2 s0 s1 S = some r) : EvW X m_X9_read 9 0 0 73 [some (.ref l0), some (.ref l1), some (.int l2)] [.int s0, .ref s1] S (qRI r) := by
  unfold f_X9_read_73 at h0
  obtain ⟨g47, h48⟩ := qk_el h0; clear h0
  obtain ⟨S49, e50, h51⟩ := qv_el h48; clear h48
  refine yv_putI (pc := 73) fn_701 ⟨rfl, rfl⟩ (isb_el g47) e50 gw_119 dX9_read_73 ?_
  refine ev_aload_n (pc := 76) (i := 0) rfl rfl rfl dX9_read_76 ?_
  obtain ⟨g52, h53⟩ := qk_el h51; clear h51
  obtain ⟨x54, e55, h56⟩ := qv_el h53; clear h53
  refine xv_getIv (pc := 77) fn_701 (isb_el g52) e55 gw_119 dX9_read_77 ?_
  refine ev_if_eq (pc := 80) (tgt := 93) (by decide) dX9_read_80 (fun c57 => ?_) (fun c57 => ?_)
  · replace h56 := qi_t h56 c57
    refine ev_iinc (pc := 93) (L' := [some (.ref l0), some (.ref l1), some (.int (l2 + 1))]) (i := 2) (v := (l2 + 1)) rfl rfl (by decide) rfl rfl dX9_read_93 ?_
    refine ev_goto (pc := 96) (tgt := 21) (by decide) dX9_read_96 ?_
    exact ev_weak (qL_s (qL_s (qL_s qL_nil))) (hk21 _ _ _ _ _ h56)
  · replace h56 := qi_f h56 c57
    refine ev_aload_n (pc := 83) (i := 0) rfl rfl rfl dX9_read_83 ?_
    refine ev_aload_n (pc := 84) (i := 0) rfl rfl rfl dX9_read_84 ?_
    obtain ⟨x59, e60, h61⟩ := qv_el h56; clear h56
    refine xv_getIv (pc := 85) fn_704 (isb_el g52) e60 gw_124 dX9_read_85 ?_
    obtain ⟨S62, e63, h64⟩ := qv_el h61; clear h61
    refine yv_putI (pc := 88) fn_702 ⟨rfl, rfl⟩ (isb_el g52) e63 gw_121 dX9_read_88 ?_
    refine ev_iconst (pc := 91) (v := 0) (by decide) dX9_read_91 ?_
    exact ev_ireturn (pc := 92) rfl rfl (qRI_eq h64) dX9_read_92
theorem e_X9_read_21 {X : gk_X} {F : Nat} : ∀ (n : Nat) (l0 : Nat) (l1 : Nat) (l2 : Int32) (S : gk_S) (r : (Int32 × gk_S)), f_X9_read_21 F n l0 l1 l2 S = some r → EvW X m_X9_read 9 0 0 21 [some (.ref l0), some (.ref l1), some (.int l2)] [] S (qRI r) := by
  intro n
  induction n with
  | zero => intro l0 l1 l2 S r h0; rw [f_X9_read_21] at h0; cases h0
  | succ n ih =>
    intro l0 l1 l2 S r h0; rw [f_X9_read_21] at h0
    refine ev_iload_n (pc := 21) (i := 2) rfl rfl dX9_read_21 ?_
    refine ev_sipush (pc := 22) (v := 2100) (by decide) dX9_read_22 ?_
    refine ev_ic_gt (pc := 25) (tgt := 99) (by decide) dX9_read_25 (fun c18 => ?_) (fun c18 => ?_)
    · replace h0 := qi_t h0 c18
      refine ev_iconst (pc := 99) (v := 1) (by decide) dX9_read_99 ?_
      exact ev_ireturn (pc := 100) rfl rfl (qRI_eq h0) dX9_read_100
    · replace h0 := qi_f h0 c18
      refine ev_aload_n (pc := 28) (i := 0) rfl rfl rfl dX9_read_28 ?_
      obtain ⟨g20, h21⟩ := qk_el h0; clear h0
      obtain ⟨x22, e23, h24⟩ := qv_el h21; clear h21
      refine xv_getIv (pc := 29) fn_707 (isb_el g20) e23 gw_127 dX9_read_29 ?_
      refine ev_if_eq (pc := 32) (tgt := 99) (by decide) dX9_read_32 (fun c25 => ?_) (fun c25 => ?_)
      · replace h24 := qi_t h24 c25
        refine ev_iconst (pc := 99) (v := 1) (by decide) dX9_read_99 ?_
        exact ev_ireturn (pc := 100) rfl rfl (qRI_eq h24) dX9_read_100
      · replace h24 := qi_f h24 c25
        refine ev_aload_n (pc := 35) (i := 0) rfl rfl rfl dX9_read_35 ?_
        obtain ⟨x27, S28, e29, h30⟩ := qc_el h24; clear h24
        refine xv_callV (pc := 36) (st := []) (as := []) (v := none) (S' := S28) ok_X9_step (e_X9_step e29) (isb_el g20) (by decide) rfl (Nat.le_of_ble_eq_true rfl) rfl gw_464 dX9_read_36 ?_
        refine ev_aload_n (pc := 39) (i := 0) rfl rfl rfl dX9_read_39 ?_
        refine ev_aload_n (pc := 40) (i := 0) rfl rfl rfl dX9_read_40 ?_
        obtain ⟨g31, h32⟩ := qk_el h30; clear h30
        obtain ⟨x33, e34, h35⟩ := qv_el h32; clear h32
        refine xv_getIv (pc := 41) fn_703 (isb_el g31) e34 gw_123 dX9_read_41 ?_
        refine ev_sipush (pc := 44) (v := 260) (by decide) dX9_read_44 ?_
        refine ev_ic_ne (pc := 47) (tgt := 54) (by decide) dX9_read_47 (fun c36 => ?_) (fun c36 => ?_)
        · replace h35 := qi_f h35 c36
          refine ev_aload_n (pc := 54) (i := 0) rfl rfl rfl dX9_read_54 ?_
          obtain ⟨x38, e39, h40⟩ := qv_el h35; clear h35
          refine xv_getIv (pc := 55) fn_703 (isb_el g31) e39 gw_123 dX9_read_55 ?_
          refine ev_sipush (pc := 58) (v := 261) (by decide) dX9_read_58 ?_
          refine ev_ic_ne (pc := 61) (tgt := 68) (by decide) dX9_read_61 (fun c41 => ?_) (fun c41 => ?_)
          · replace h40 := qi_f h40 c41
            refine ev_aload_n (pc := 68) (i := 0) rfl rfl rfl dX9_read_68 ?_
            refine ev_aload_n (pc := 69) (i := 1) rfl rfl rfl dX9_read_69 ?_
            obtain ⟨x43, S44, e45, h46⟩ := qc_el h40; clear h40
            refine xv_callV (pc := 70) (st := [.ref l0]) (as := [.ref l1]) (v := (some (.int x43))) (S' := S44) ok_X9_take (e_X9_take e45) (isb_el g31) (by decide) rfl (Nat.le_of_ble_eq_true rfl) rfl gw_498 dX9_read_70 ?_
            exact ev_weak (qL_s (qL_s (qL_s qL_nil))) (e_X9_read_73 ih h46)
          · replace h40 := qi_t h40 c41
            refine ev_iconst (pc := 64) (v := 4) (by decide) dX9_read_64 ?_
            refine ev_goto (pc := 65) (tgt := 73) (by decide) dX9_read_65 ?_
            exact ev_weak (qL_s (qL_s (qL_s qL_nil))) (e_X9_read_73 ih h40)
        · replace h35 := qi_t h35 c36
          refine ev_iconst (pc := 50) (v := 1) (by decide) dX9_read_50 ?_
          refine ev_goto (pc := 51) (tgt := 73) (by decide) dX9_read_51 ?_
          exact ev_weak (qL_s (qL_s (qL_s qL_nil))) (e_X9_read_73 ih h35)
theorem e_X9_read {X : gk_X} {F : Nat} {S : gk_S} {a : Nat} {p0 : Nat} {r : (Int32 × gk_S)} (h0 : f_X9_read F S a p0 = some r) : EvM X m_X9_read 9 0 0 [.ref a, .ref p0] S (qRI r) := by
  unfold f_X9_read at h0
  refine ev_method (by decide +kernel) rfl rfl (Nat.le_of_ble_eq_true rfl) ?_
  show EvW X m_X9_read 9 0 0 0 [some (.ref a), some (.ref p0), none] [] S _
  refine ev_aload_n (pc := 0) (i := 0) rfl rfl rfl dX9_read_0 ?_
  refine ev_iconst (pc := 1) (v := 0) (by decide) dX9_read_1 ?_
  obtain ⟨g1, h2⟩ := qk_el h0; clear h0
  obtain ⟨S3, e4, h5⟩ := qv_el h2; clear h2
  refine yv_putI (pc := 2) fn_701 ⟨rfl, rfl⟩ (isb_el g1) e4 gw_119 dX9_read_2 ?_
  refine ev_aload_n (pc := 5) (i := 0) rfl rfl rfl dX9_read_5 ?_
  refine ev_iconst (pc := 6) (v := 0) (by decide) dX9_read_6 ?_
  obtain ⟨S6, e7, h8⟩ := qv_el h5; clear h5
  refine yv_putI (pc := 7) fn_705 ⟨rfl, rfl⟩ (is_sI (isb_el g1) e4) e7 gw_125 dX9_read_7 ?_
  refine ev_aload_n (pc := 10) (i := 0) rfl rfl rfl dX9_read_10 ?_
  refine ev_iconst (pc := 11) (v := 1) (by decide) dX9_read_11 ?_
  obtain ⟨S9, e10, h11⟩ := qv_el h8; clear h8
  refine yv_putI (pc := 12) fn_707 ⟨rfl, rfl⟩ (is_sI (is_sI (isb_el g1) e4) e7) e10 gw_127 dX9_read_12 ?_
  refine ev_aload_n (pc := 15) (i := 1) rfl rfl rfl dX9_read_15 ?_
  obtain ⟨g12, h13⟩ := qk_el h11; clear h11
  obtain ⟨x14, S15, e16, h17⟩ := qc_el h13; clear h13
  refine xv_callV (pc := 16) (st := []) (as := []) (v := none) (S' := S15) ok_X6_clear (e_X6_clear e16) (isb_el g12) (by decide) rfl (Nat.le_of_ble_eq_true rfl) rfl gw_460 dX9_read_16 ?_
  refine ev_iconst (pc := 19) (v := 0) (by decide) dX9_read_19 ?_
  refine ev_istore_n (pc := 20) (L' := [some (.ref a), some (.ref p0), some (.int 0)]) (i := 2) rfl (by decide) rfl rfl dX9_read_20 ?_
  exact ev_weak (qL_s (qL_s (qL_s qL_nil))) (e_X9_read_21 F _ _ _ _ _ h17)
