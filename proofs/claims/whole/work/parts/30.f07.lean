theorem dX12_readRange_0 : decode cX12_readRange 0 = .ok (.iload_n 2, 1) := by decide +kernel
theorem dX12_readRange_1 : decode cX12_readRange 1 = .ok (.iconst 1, 1) := by decide +kernel
theorem dX12_readRange_2 : decode cX12_readRange 2 = .ok (.if_icmp .ne 91, 3) := by decide +kernel
theorem dX12_readRange_5 : decode cX12_readRange 5 = .ok (.aload_n 0, 1) := by decide +kernel
theorem dX12_readRange_6 : decode cX12_readRange 6 = .ok (.getfield 120, 3) := by decide +kernel
theorem dX12_readRange_9 : decode cX12_readRange 9 = .ok (.iconst 1, 1) := by decide +kernel
theorem dX12_readRange_10 : decode cX12_readRange 10 = .ok (.if_icmp .ne 83, 3) := by decide +kernel
theorem dX12_readRange_13 : decode cX12_readRange 13 = .ok (.aload_n 0, 1) := by decide +kernel
theorem dX12_readRange_14 : decode cX12_readRange 14 = .ok (.getfield 136, 3) := by decide +kernel
theorem dX12_readRange_17 : decode cX12_readRange 17 = .ok (.bipush 11, 2) := by decide +kernel
theorem dX12_readRange_19 : decode cX12_readRange 19 = .ok (.if_icmp .lt 74, 3) := by decide +kernel
theorem dX12_readRange_22 : decode cX12_readRange 22 = .ok (.aload_n 0, 1) := by decide +kernel
theorem dX12_readRange_23 : decode cX12_readRange 23 = .ok (.getfield 136, 3) := by decide +kernel
theorem dX12_readRange_26 : decode cX12_readRange 26 = .ok (.bipush 14, 2) := by decide +kernel
theorem dX12_readRange_28 : decode cX12_readRange 28 = .ok (.if_icmp .ge 65, 3) := by decide +kernel
theorem dX12_readRange_31 : decode cX12_readRange 31 = .ok (.aload_n 0, 1) := by decide +kernel
theorem dX12_readRange_32 : decode cX12_readRange 32 = .ok (.invokevirtual 160, 3) := by decide +kernel
theorem dX12_readRange_35 : decode cX12_readRange 35 = .ok (.ifCond .ne 58, 3) := by decide +kernel
theorem dX12_readRange_38 : decode cX12_readRange 38 = .ok (.aload_n 0, 1) := by decide +kernel
theorem dX12_readRange_39 : decode cX12_readRange 39 = .ok (.getfield 36, 3) := by decide +kernel
theorem dX12_readRange_42 : decode cX12_readRange 42 = .ok (.iload_n 1, 1) := by decide +kernel
theorem dX12_readRange_43 : decode cX12_readRange 43 = .ok (.aload_n 0, 1) := by decide +kernel
theorem dX12_readRange_44 : decode cX12_readRange 44 = .ok (.getfield 136, 3) := by decide +kernel
theorem dX12_readRange_47 : decode cX12_readRange 47 = .ok (.bipush 11, 2) := by decide +kernel
theorem dX12_readRange_49 : decode cX12_readRange 49 = .ok (.if_icmp .ne 9, 3) := by decide +kernel
theorem dX12_readRange_52 : decode cX12_readRange 52 = .ok (.ldc2_w 214, 3) := by decide +kernel
theorem dX12_readRange_55 : decode cX12_readRange 55 = .ok (.goto 19, 3) := by decide +kernel
theorem dX12_readRange_58 : decode cX12_readRange 58 = .ok (.aload_n 0, 1) := by decide +kernel
theorem dX12_readRange_59 : decode cX12_readRange 59 = .ok (.getfield 136, 3) := by decide +kernel
theorem dX12_readRange_62 : decode cX12_readRange 62 = .ok (.bipush 12, 2) := by decide +kernel
theorem dX12_readRange_64 : decode cX12_readRange 64 = .ok (.if_icmp .ne 9, 3) := by decide +kernel
theorem dX12_readRange_67 : decode cX12_readRange 67 = .ok (.ldc2_w 216, 3) := by decide +kernel
theorem dX12_readRange_70 : decode cX12_readRange 70 = .ok (.goto 4, 3) := by decide +kernel
theorem dX12_readRange_73 : decode cX12_readRange 73 = .ok (.lconst 1, 1) := by decide +kernel
theorem dX12_readRange_74 : decode cX12_readRange 74 = .ok (.lastore, 1) := by decide +kernel
theorem dX12_readRange_75 : decode cX12_readRange 75 = .ok (.aload_n 0, 1) := by decide +kernel
theorem dX12_readRange_76 : decode cX12_readRange 76 = .ok (.getfield 40, 3) := by decide +kernel
theorem dX12_readRange_79 : decode cX12_readRange 79 = .ok (.iload_n 1, 1) := by decide +kernel
theorem dX12_readRange_80 : decode cX12_readRange 80 = .ok (.aload_n 0, 1) := by decide +kernel
theorem dX12_readRange_81 : decode cX12_readRange 81 = .ok (.getfield 36, 3) := by decide +kernel
theorem dX12_readRange_84 : decode cX12_readRange 84 = .ok (.iload_n 1, 1) := by decide +kernel
theorem dX12_readRange_85 : decode cX12_readRange 85 = .ok (.laload, 1) := by decide +kernel
theorem dX12_readRange_86 : decode cX12_readRange 86 = .ok (.lastore, 1) := by decide +kernel
theorem dX12_readRange_87 : decode cX12_readRange 87 = .ok (.aload_n 0, 1) := by decide +kernel
theorem dX12_readRange_88 : decode cX12_readRange 88 = .ok (.invokevirtual 173, 3) := by decide +kernel
theorem dX12_readRange_91 : decode cX12_readRange 91 = .ok (.iconst 1, 1) := by decide +kernel
theorem dX12_readRange_92 : decode cX12_readRange 92 = .ok (.ireturn, 1) := by decide +kernel
theorem dX12_readRange_93 : decode cX12_readRange 93 = .ok (.aload_n 0, 1) := by decide +kernel
theorem dX12_readRange_94 : decode cX12_readRange 94 = .ok (.getfield 120, 3) := by decide +kernel
theorem dX12_readRange_97 : decode cX12_readRange 97 = .ok (.iconst 2, 1) := by decide +kernel
theorem dX12_readRange_98 : decode cX12_readRange 98 = .ok (.if_icmp .ne 10, 3) := by decide +kernel
theorem dX12_readRange_101 : decode cX12_readRange 101 = .ok (.aload_n 0, 1) := by decide +kernel
theorem dX12_readRange_102 : decode cX12_readRange 102 = .ok (.invokevirtual 160, 3) := by decide +kernel
theorem dX12_readRange_105 : decode cX12_readRange 105 = .ok (.ifCond .eq 8, 3) := by decide +kernel
theorem dX12_readRange_108 : decode cX12_readRange 108 = .ok (.aload_n 0, 1) := by decide +kernel
theorem dX12_readRange_109 : decode cX12_readRange 109 = .ok (.invokevirtual 170, 3) := by decide +kernel
theorem dX12_readRange_112 : decode cX12_readRange 112 = .ok (.ireturn, 1) := by decide +kernel
theorem dX12_readRange_113 : decode cX12_readRange 113 = .ok (.aload_n 0, 1) := by decide +kernel
theorem dX12_readRange_114 : decode cX12_readRange 114 = .ok (.getfield 143, 3) := by decide +kernel
theorem dX12_readRange_117 : decode cX12_readRange 117 = .ok (.iload_n 2, 1) := by decide +kernel
theorem dX12_readRange_118 : decode cX12_readRange 118 = .ok (.invokestatic 201, 3) := by decide +kernel
theorem dX12_readRange_121 : decode cX12_readRange 121 = .ok (.lcmp, 1) := by decide +kernel
theorem dX12_readRange_122 : decode cX12_readRange 122 = .ok (.ifCond .le 9, 3) := by decide +kernel
theorem dX12_readRange_125 : decode cX12_readRange 125 = .ok (.aload_n 0, 1) := by decide +kernel
theorem dX12_readRange_126 : decode cX12_readRange 126 = .ok (.iconst 3, 1) := by decide +kernel
theorem dX12_readRange_127 : decode cX12_readRange 127 = .ok (.invokevirtual 164, 3) := by decide +kernel
theorem dX12_readRange_130 : decode cX12_readRange 130 = .ok (.ireturn, 1) := by decide +kernel
theorem dX12_readRange_131 : decode cX12_readRange 131 = .ok (.aload_n 0, 1) := by decide +kernel
theorem dX12_readRange_132 : decode cX12_readRange 132 = .ok (.getfield 36, 3) := by decide +kernel
theorem dX12_readRange_135 : decode cX12_readRange 135 = .ok (.iload_n 1, 1) := by decide +kernel
theorem dX12_readRange_136 : decode cX12_readRange 136 = .ok (.aload_n 0, 1) := by decide +kernel
theorem dX12_readRange_137 : decode cX12_readRange 137 = .ok (.getfield 143, 3) := by decide +kernel
theorem dX12_readRange_140 : decode cX12_readRange 140 = .ok (.lastore, 1) := by decide +kernel
theorem dX12_readRange_141 : decode cX12_readRange 141 = .ok (.aload_n 0, 1) := by decide +kernel
theorem dX12_readRange_142 : decode cX12_readRange 142 = .ok (.getfield 40, 3) := by decide +kernel
theorem dX12_readRange_145 : decode cX12_readRange 145 = .ok (.iload_n 1, 1) := by decide +kernel
theorem dX12_readRange_146 : decode cX12_readRange 146 = .ok (.aload_n 0, 1) := by decide +kernel
theorem dX12_readRange_147 : decode cX12_readRange 147 = .ok (.getfield 143, 3) := by decide +kernel
theorem dX12_readRange_150 : decode cX12_readRange 150 = .ok (.lastore, 1) := by decide +kernel
theorem dX12_readRange_151 : decode cX12_readRange 151 = .ok (.aload_n 0, 1) := by decide +kernel
theorem dX12_readRange_152 : decode cX12_readRange 152 = .ok (.invokevirtual 173, 3) := by decide +kernel
theorem dX12_readRange_155 : decode cX12_readRange 155 = .ok (.aload_n 0, 1) := by decide +kernel
theorem dX12_readRange_156 : decode cX12_readRange 156 = .ok (.bipush 45, 2) := by decide +kernel
theorem dX12_readRange_158 : decode cX12_readRange 158 = .ok (.invokevirtual 167, 3) := by decide +kernel
theorem dX12_readRange_161 : decode cX12_readRange 161 = .ok (.ifCond .ne 5, 3) := by decide +kernel
theorem dX12_readRange_164 : decode cX12_readRange 164 = .ok (.iconst 1, 1) := by decide +kernel
theorem dX12_readRange_165 : decode cX12_readRange 165 = .ok (.ireturn, 1) := by decide +kernel
theorem dX12_readRange_166 : decode cX12_readRange 166 = .ok (.aload_n 0, 1) := by decide +kernel
theorem dX12_readRange_167 : decode cX12_readRange 167 = .ok (.invokevirtual 173, 3) := by decide +kernel
theorem dX12_readRange_170 : decode cX12_readRange 170 = .ok (.aload_n 0, 1) := by decide +kernel
theorem dX12_readRange_171 : decode cX12_readRange 171 = .ok (.getfield 120, 3) := by decide +kernel
theorem dX12_readRange_174 : decode cX12_readRange 174 = .ok (.iconst 2, 1) := by decide +kernel
theorem dX12_readRange_175 : decode cX12_readRange 175 = .ok (.if_icmp .ne 10, 3) := by decide +kernel
theorem dX12_readRange_178 : decode cX12_readRange 178 = .ok (.aload_n 0, 1) := by decide +kernel
theorem dX12_readRange_179 : decode cX12_readRange 179 = .ok (.invokevirtual 160, 3) := by decide +kernel
theorem dX12_readRange_182 : decode cX12_readRange 182 = .ok (.ifCond .eq 8, 3) := by decide +kernel
theorem dX12_readRange_185 : decode cX12_readRange 185 = .ok (.aload_n 0, 1) := by decide +kernel
theorem dX12_readRange_186 : decode cX12_readRange 186 = .ok (.invokevirtual 170, 3) := by decide +kernel
theorem dX12_readRange_189 : decode cX12_readRange 189 = .ok (.ireturn, 1) := by decide +kernel
theorem dX12_readRange_190 : decode cX12_readRange 190 = .ok (.aload_n 0, 1) := by decide +kernel
theorem dX12_readRange_191 : decode cX12_readRange 191 = .ok (.getfield 143, 3) := by decide +kernel
theorem dX12_readRange_194 : decode cX12_readRange 194 = .ok (.iload_n 2, 1) := by decide +kernel
theorem dX12_readRange_195 : decode cX12_readRange 195 = .ok (.invokestatic 201, 3) := by decide +kernel
theorem dX12_readRange_198 : decode cX12_readRange 198 = .ok (.lcmp, 1) := by decide +kernel
theorem dX12_readRange_199 : decode cX12_readRange 199 = .ok (.ifCond .gt 17, 3) := by decide +kernel
theorem dX12_readRange_202 : decode cX12_readRange 202 = .ok (.aload_n 0, 1) := by decide +kernel
theorem dX12_readRange_203 : decode cX12_readRange 203 = .ok (.getfield 143, 3) := by decide +kernel
theorem dX12_readRange_206 : decode cX12_readRange 206 = .ok (.aload_n 0, 1) := by decide +kernel
theorem dX12_readRange_207 : decode cX12_readRange 207 = .ok (.getfield 36, 3) := by decide +kernel
theorem dX12_readRange_210 : decode cX12_readRange 210 = .ok (.iload_n 1, 1) := by decide +kernel
theorem dX12_readRange_211 : decode cX12_readRange 211 = .ok (.laload, 1) := by decide +kernel
theorem dX12_readRange_212 : decode cX12_readRange 212 = .ok (.lcmp, 1) := by decide +kernel
theorem dX12_readRange_213 : decode cX12_readRange 213 = .ok (.ifCond .ge 9, 3) := by decide +kernel
theorem dX12_readRange_216 : decode cX12_readRange 216 = .ok (.aload_n 0, 1) := by decide +kernel
theorem dX12_readRange_217 : decode cX12_readRange 217 = .ok (.iconst 3, 1) := by decide +kernel
theorem dX12_readRange_218 : decode cX12_readRange 218 = .ok (.invokevirtual 164, 3) := by decide +kernel
theorem dX12_readRange_221 : decode cX12_readRange 221 = .ok (.ireturn, 1) := by decide +kernel
theorem dX12_readRange_222 : decode cX12_readRange 222 = .ok (.aload_n 0, 1) := by decide +kernel
theorem dX12_readRange_223 : decode cX12_readRange 223 = .ok (.getfield 40, 3) := by decide +kernel
theorem dX12_readRange_226 : decode cX12_readRange 226 = .ok (.iload_n 1, 1) := by decide +kernel
theorem dX12_readRange_227 : decode cX12_readRange 227 = .ok (.aload_n 0, 1) := by decide +kernel
theorem dX12_readRange_228 : decode cX12_readRange 228 = .ok (.getfield 143, 3) := by decide +kernel
theorem dX12_readRange_231 : decode cX12_readRange 231 = .ok (.lastore, 1) := by decide +kernel
theorem dX12_readRange_232 : decode cX12_readRange 232 = .ok (.aload_n 0, 1) := by decide +kernel
theorem dX12_readRange_233 : decode cX12_readRange 233 = .ok (.invokevirtual 173, 3) := by decide +kernel
theorem dX12_readRange_236 : decode cX12_readRange 236 = .ok (.iconst 1, 1) := by decide +kernel
theorem dX12_readRange_237 : decode cX12_readRange 237 = .ok (.ireturn, 1) := by decide +kernel
theorem e_X12_readRange_108 {X : gk_X} {F : Nat} {l0 : Nat} {S : gk_S} {r : (Int32 × gk_S)} (h0 : f_X12_readRange_108 F l0 S = some r) : EvW X m_X12_readRange 8 0 0 108 [some (.ref l0), none, none] [] S (qRI r) := by
  unfold f_X12_readRange_108 at h0
  refine ev_aload_n (pc := 108) (i := 0) rfl rfl rfl dX12_readRange_108 ?_
  obtain ⟨g10, h11⟩ := qk_el h0; clear h0
  obtain ⟨x12, S13, e14, h15⟩ := qc_el h11; clear h11
  refine xv_callV (pc := 109) (st := []) (as := []) (v := (some (.int x12))) (S' := S13) ok_X12_cant (e_X12_cant e14) (isb_el g10) (by decide) rfl (Nat.le_of_ble_eq_true rfl) rfl gw_1324 dX12_readRange_109 ?_
  obtain ⟨g16, h17⟩ := qk_el h15; clear h15
  exact ev_ireturn (pc := 112) rfl (zb_nar g16) (qRI_eq h17) dX12_readRange_112
theorem e_X12_readRange_185 {X : gk_X} {F : Nat} {l0 : Nat} {S : gk_S} {r : (Int32 × gk_S)} (h0 : f_X12_readRange_185 F l0 S = some r) : EvW X m_X12_readRange 8 0 0 185 [some (.ref l0), none, none] [] S (qRI r) := by
  unfold f_X12_readRange_185 at h0
  refine ev_aload_n (pc := 185) (i := 0) rfl rfl rfl dX12_readRange_185 ?_
  obtain ⟨g88, h89⟩ := qk_el h0; clear h0
  obtain ⟨x90, S91, e92, h93⟩ := qc_el h89; clear h89
  refine xv_callV (pc := 186) (st := []) (as := []) (v := (some (.int x90))) (S' := S91) ok_X12_cant (e_X12_cant e92) (isb_el g88) (by decide) rfl (Nat.le_of_ble_eq_true rfl) rfl gw_1324 dX12_readRange_186 ?_
  obtain ⟨g94, h95⟩ := qk_el h93; clear h93
  exact ev_ireturn (pc := 189) rfl (zb_nar g94) (qRI_eq h95) dX12_readRange_189
theorem e_X12_readRange_216 {X : gk_X} {F : Nat} {l0 : Nat} {S : gk_S} {r : (Int32 × gk_S)} (h0 : f_X12_readRange_216 F l0 S = some r) : EvW X m_X12_readRange 8 0 0 216 [some (.ref l0), none, none] [] S (qRI r) := by
  unfold f_X12_readRange_216 at h0
  refine ev_aload_n (pc := 216) (i := 0) rfl rfl rfl dX12_readRange_216 ?_
  refine ev_iconst (pc := 217) (v := 3) (by decide) dX12_readRange_217 ?_
  obtain ⟨g113, h114⟩ := qk_el h0; clear h0
  obtain ⟨x115, S116, e117, h118⟩ := qc_el h114; clear h114
  refine xv_callV (pc := 218) (st := []) (as := [.int 3]) (v := (some (.int x115))) (S' := S116) ok_X12_wrong (e_X12_wrong e117) (isb_el g113) (by decide) rfl (Nat.le_of_ble_eq_true rfl) rfl gw_1328 dX12_readRange_218 ?_
  obtain ⟨g119, h120⟩ := qk_el h118; clear h118
  exact ev_ireturn (pc := 221) rfl (zb_nar g119) (qRI_eq h120) dX12_readRange_221
theorem e_X12_readRange_93 {X : gk_X} {F : Nat} {l0 : Nat} {l1 : Int32} {l2 : Int32} {S : gk_S} {r : (Int32 × gk_S)} (h0 : f_X12_readRange_93 F l0 l1 l2 S = some r) : EvW X m_X12_readRange 8 0 0 93 [some (.ref l0), some (.int l1), some (.int l2)] [] S (qRI r) := by
  unfold f_X12_readRange_93 at h0
  refine ev_aload_n (pc := 93) (i := 0) rfl rfl rfl dX12_readRange_93 ?_
  obtain ⟨g3, h4⟩ := qk_el h0; clear h0
  obtain ⟨x5, e6, h7⟩ := qv_el h4; clear h4
  refine xv_getIv (pc := 94) fn_914 (isb_el g3) e6 gw_1154 dX12_readRange_94 ?_
  refine ev_iconst (pc := 97) (v := 2) (by decide) dX12_readRange_97 ?_
  refine ev_ic_ne (pc := 98) (tgt := 108) (by decide) dX12_readRange_98 (fun c8 => ?_) (fun c8 => ?_)
  · replace h7 := qi_f h7 c8
    exact ev_weak (qL_s (qL_n (qL_n qL_nil))) (e_X12_readRange_108 h7)
  · replace h7 := qi_t h7 c8
    refine ev_aload_n (pc := 101) (i := 0) rfl rfl rfl dX12_readRange_101 ?_
    obtain ⟨x18, S19, e20, h21⟩ := qc_el h7; clear h7
    refine xv_callV (pc := 102) (st := []) (as := []) (v := (some (.int x18))) (S' := S19) ok_X12_isLate (e_X12_isLate e20) (isb_el g3) (by decide) rfl (Nat.le_of_ble_eq_true rfl) rfl gw_1316 dX12_readRange_102 ?_
    refine ev_if_eq (pc := 105) (tgt := 113) (by decide) dX12_readRange_105 (fun c22 => ?_) (fun c22 => ?_)
    · replace h21 := qi_t h21 c22
      refine ev_aload_n (pc := 113) (i := 0) rfl rfl rfl dX12_readRange_113 ?_
      obtain ⟨g24, h25⟩ := qk_el h21; clear h21
      obtain ⟨x26, e27, h28⟩ := qv_el h25; clear h25
      refine xv_getJv (pc := 114) fn_917 (isb_el g24) e27 gw_1157 dX12_readRange_114 ?_
      refine ev_iload_n (pc := 117) (i := 2) rfl rfl dX12_readRange_117 ?_
      obtain ⟨x29, S30, e31, h32⟩ := qc_el h28; clear h28
      refine xv_callS (pc := 118) (st := [.long x26]) (as := [.int l2]) (v := (some (.long x29))) (S' := S30) ok_X12_most (e_X12_most e31) (by decide) rfl (Nat.le_of_ble_eq_true rfl) rfl gw_1344 dX12_readRange_118 ?_
      refine ev_lcmp (pc := 121)  dX12_readRange_121 ?_
      refine ev_if_le (pc := 122) (tgt := 131) (by decide) dX12_readRange_122 (fun c33 => ?_) (fun c33 => ?_)
      · replace h32 := qi_t h32 (lc_le c33)
        refine ev_aload_n (pc := 131) (i := 0) rfl rfl rfl dX12_readRange_131 ?_
        obtain ⟨g35, h36⟩ := qk_el h32; clear h32
        obtain ⟨b37, e38, h39⟩ := qP_el h36; clear h36
        refine xv_getP (pc := 132) fn_909 (isb_el g35) e38 gw_1149 dX12_readRange_132 ?_
        refine ev_iload_n (pc := 135) (i := 1) rfl rfl dX12_readRange_135 ?_
        refine ev_aload_n (pc := 136) (i := 0) rfl rfl rfl dX12_readRange_136 ?_
        obtain ⟨x40, e41, h42⟩ := qv_el h39; clear h39
        refine xv_getJv (pc := 137) fn_917 (isb_el g35) e41 gw_1157 dX12_readRange_137 ?_
        obtain ⟨g43, h44⟩ := qk_el h42; clear h42
        obtain ⟨g45, h46⟩ := qk_el h44; clear h44
        obtain ⟨S47, e48, h49⟩ := qv_el h46; clear h46
        refine yv_last (pc := 140) (isb_el g43) (inb_el g45) e48 dX12_readRange_140 ?_
        refine ev_aload_n (pc := 141) (i := 0) rfl rfl rfl dX12_readRange_141 ?_
        obtain ⟨b50, e51, h52⟩ := qP_el h49; clear h49
        refine xv_getP (pc := 142) fn_910 (is_wJ (isb_el g35) e48) e51 gw_1150 dX12_readRange_142 ?_
        refine ev_iload_n (pc := 145) (i := 1) rfl rfl dX12_readRange_145 ?_
        refine ev_aload_n (pc := 146) (i := 0) rfl rfl rfl dX12_readRange_146 ?_
        obtain ⟨x53, e54, h55⟩ := qv_el h52; clear h52
        refine xv_getJv (pc := 147) fn_917 (is_wJ (isb_el g35) e48) e54 gw_1157 dX12_readRange_147 ?_
        obtain ⟨g56, h57⟩ := qk_el h55; clear h55
        obtain ⟨g58, h59⟩ := qk_el h57; clear h57
        obtain ⟨S60, e61, h62⟩ := qv_el h59; clear h59
        refine yv_last (pc := 150) (isb_el g56) (inb_el g58) e61 dX12_readRange_150 ?_
        refine ev_aload_n (pc := 151) (i := 0) rfl rfl rfl dX12_readRange_151 ?_
        obtain ⟨x63, S64, e65, h66⟩ := qc_el h62; clear h62
        refine xv_callV (pc := 152) (st := []) (as := []) (v := none) (S' := S64) ok_X12_next (e_X12_next e65) (is_wJ (is_wJ (isb_el g35) e48) e61) (by decide) rfl (Nat.le_of_ble_eq_true rfl) rfl gw_1276 dX12_readRange_152 ?_
        refine ev_aload_n (pc := 155) (i := 0) rfl rfl rfl dX12_readRange_155 ?_
        refine ev_bipush (pc := 156) (v := 45) (by decide) dX12_readRange_156 ?_
        obtain ⟨g67, h68⟩ := qk_el h66; clear h66
        obtain ⟨x69, S70, e71, h72⟩ := qc_el h68; clear h68
        refine xv_callV (pc := 158) (st := []) (as := [.int 45]) (v := (some (.int x69))) (S' := S70) ok_X12_isSign (e_X12_isSign e71) (isb_el g67) (by decide) rfl (Nat.le_of_ble_eq_true rfl) rfl gw_1336 dX12_readRange_158 ?_
        refine ev_if_ne (pc := 161) (tgt := 166) (by decide) dX12_readRange_161 (fun c73 => ?_) (fun c73 => ?_)
        · replace h72 := qi_f h72 c73
          refine ev_aload_n (pc := 166) (i := 0) rfl rfl rfl dX12_readRange_166 ?_
          obtain ⟨g75, h76⟩ := qk_el h72; clear h72
          obtain ⟨x77, S78, e79, h80⟩ := qc_el h76; clear h76
          refine xv_callV (pc := 167) (st := []) (as := []) (v := none) (S' := S78) ok_X12_next (e_X12_next e79) (isb_el g75) (by decide) rfl (Nat.le_of_ble_eq_true rfl) rfl gw_1276 dX12_readRange_167 ?_
          refine ev_aload_n (pc := 170) (i := 0) rfl rfl rfl dX12_readRange_170 ?_
          obtain ⟨g81, h82⟩ := qk_el h80; clear h80
          obtain ⟨x83, e84, h85⟩ := qv_el h82; clear h82
          refine xv_getIv (pc := 171) fn_914 (isb_el g81) e84 gw_1154 dX12_readRange_171 ?_
          refine ev_iconst (pc := 174) (v := 2) (by decide) dX12_readRange_174 ?_
          refine ev_ic_ne (pc := 175) (tgt := 185) (by decide) dX12_readRange_175 (fun c86 => ?_) (fun c86 => ?_)
          · replace h85 := qi_f h85 c86
            exact ev_weak (qL_s (qL_n (qL_n qL_nil))) (e_X12_readRange_185 h85)
          · replace h85 := qi_t h85 c86
            refine ev_aload_n (pc := 178) (i := 0) rfl rfl rfl dX12_readRange_178 ?_
            obtain ⟨x96, S97, e98, h99⟩ := qc_el h85; clear h85
            refine xv_callV (pc := 179) (st := []) (as := []) (v := (some (.int x96))) (S' := S97) ok_X12_isLate (e_X12_isLate e98) (isb_el g81) (by decide) rfl (Nat.le_of_ble_eq_true rfl) rfl gw_1316 dX12_readRange_179 ?_
            refine ev_if_eq (pc := 182) (tgt := 190) (by decide) dX12_readRange_182 (fun c100 => ?_) (fun c100 => ?_)
            · replace h99 := qi_t h99 c100
              refine ev_aload_n (pc := 190) (i := 0) rfl rfl rfl dX12_readRange_190 ?_
              obtain ⟨g102, h103⟩ := qk_el h99; clear h99
              obtain ⟨x104, e105, h106⟩ := qv_el h103; clear h103
              refine xv_getJv (pc := 191) fn_917 (isb_el g102) e105 gw_1157 dX12_readRange_191 ?_
              refine ev_iload_n (pc := 194) (i := 2) rfl rfl dX12_readRange_194 ?_
              obtain ⟨x107, S108, e109, h110⟩ := qc_el h106; clear h106
              refine xv_callS (pc := 195) (st := [.long x104]) (as := [.int l2]) (v := (some (.long x107))) (S' := S108) ok_X12_most (e_X12_most e109) (by decide) rfl (Nat.le_of_ble_eq_true rfl) rfl gw_1344 dX12_readRange_195 ?_
              refine ev_lcmp (pc := 198)  dX12_readRange_198 ?_
              refine ev_if_gt (pc := 199) (tgt := 216) (by decide) dX12_readRange_199 (fun c111 => ?_) (fun c111 => ?_)
              · replace h110 := qi_t h110 (lc_gt c111)
                exact ev_weak (qL_s (qL_n (qL_n qL_nil))) (e_X12_readRange_216 h110)
              · replace h110 := qi_f h110 (lc_gtN c111)
                refine ev_aload_n (pc := 202) (i := 0) rfl rfl rfl dX12_readRange_202 ?_
                obtain ⟨g121, h122⟩ := qk_el h110; clear h110
                obtain ⟨x123, e124, h125⟩ := qv_el h122; clear h122
                refine xv_getJv (pc := 203) fn_917 (isb_el g121) e124 gw_1157 dX12_readRange_203 ?_
                refine ev_aload_n (pc := 206) (i := 0) rfl rfl rfl dX12_readRange_206 ?_
                obtain ⟨b126, e127, h128⟩ := qP_el h125; clear h125
                refine xv_getP (pc := 207) fn_909 (isb_el g121) e127 gw_1149 dX12_readRange_207 ?_
                refine ev_iload_n (pc := 210) (i := 1) rfl rfl dX12_readRange_210 ?_
                obtain ⟨g129, h130⟩ := qk_el h128; clear h128
                obtain ⟨g131, h132⟩ := qk_el h130; clear h130
                obtain ⟨x133, e134, h135⟩ := qv_el h132; clear h132
                refine yv_lald (pc := 211) (isb_el g129) (inb_el g131) e134 dX12_readRange_211 ?_
                refine ev_lcmp (pc := 212)  dX12_readRange_212 ?_
                refine ev_if_ge (pc := 213) (tgt := 222) (by decide) dX12_readRange_213 (fun c136 => ?_) (fun c136 => ?_)
                · replace h135 := qi_t h135 (lc_ge c136)
                  refine ev_aload_n (pc := 222) (i := 0) rfl rfl rfl dX12_readRange_222 ?_
                  obtain ⟨b138, e139, h140⟩ := qP_el h135; clear h135
                  refine xv_getP (pc := 223) fn_910 (isb_el g121) e139 gw_1150 dX12_readRange_223 ?_
                  refine ev_iload_n (pc := 226) (i := 1) rfl rfl dX12_readRange_226 ?_
                  refine ev_aload_n (pc := 227) (i := 0) rfl rfl rfl dX12_readRange_227 ?_
                  obtain ⟨x141, e142, h143⟩ := qv_el h140; clear h140
                  refine xv_getJv (pc := 228) fn_917 (isb_el g121) e142 gw_1157 dX12_readRange_228 ?_
                  obtain ⟨g144, h145⟩ := qk_el h143; clear h143
                  obtain ⟨g146, h147⟩ := qk_el h145; clear h145
                  obtain ⟨S148, e149, h150⟩ := qv_el h147; clear h147
                  refine yv_last (pc := 231) (isb_el g144) (inb_el g146) e149 dX12_readRange_231 ?_
                  refine ev_aload_n (pc := 232) (i := 0) rfl rfl rfl dX12_readRange_232 ?_
                  obtain ⟨x151, S152, e153, h154⟩ := qc_el h150; clear h150
                  refine xv_callV (pc := 233) (st := []) (as := []) (v := none) (S' := S152) ok_X12_next (e_X12_next e153) (is_wJ (isb_el g121) e149) (by decide) rfl (Nat.le_of_ble_eq_true rfl) rfl gw_1276 dX12_readRange_233 ?_
                  refine ev_iconst (pc := 236) (v := 1) (by decide) dX12_readRange_236 ?_
                  exact ev_ireturn (pc := 237) rfl rfl (qRI_eq h154) dX12_readRange_237
                · replace h135 := qi_f h135 (lc_geN c136)
                  exact ev_weak (qL_s (qL_n (qL_n qL_nil))) (e_X12_readRange_216 h135)
            · replace h99 := qi_f h99 c100
              exact ev_weak (qL_s (qL_n (qL_n qL_nil))) (e_X12_readRange_185 h99)
        · replace h72 := qi_t h72 c73
          refine ev_iconst (pc := 164) (v := 1) (by decide) dX12_readRange_164 ?_
          exact ev_ireturn (pc := 165) rfl rfl (qRI_eq h72) dX12_readRange_165
      · replace h32 := qi_f h32 (lc_leN c33)
        refine ev_aload_n (pc := 125) (i := 0) rfl rfl rfl dX12_readRange_125 ?_
        refine ev_iconst (pc := 126) (v := 3) (by decide) dX12_readRange_126 ?_
        obtain ⟨g155, h156⟩ := qk_el h32; clear h32
        obtain ⟨x157, S158, e159, h160⟩ := qc_el h156; clear h156
        refine xv_callV (pc := 127) (st := []) (as := [.int 3]) (v := (some (.int x157))) (S' := S158) ok_X12_wrong (e_X12_wrong e159) (isb_el g155) (by decide) rfl (Nat.le_of_ble_eq_true rfl) rfl gw_1328 dX12_readRange_127 ?_
        obtain ⟨g161, h162⟩ := qk_el h160; clear h160
        exact ev_ireturn (pc := 130) rfl (zb_nar g161) (qRI_eq h162) dX12_readRange_130
    · replace h21 := qi_f h21 c22
      exact ev_weak (qL_s (qL_n (qL_n qL_nil))) (e_X12_readRange_108 h21)
theorem e_X12_readRange_74 {X : gk_X} {F : Nat} {l0 : Nat} {l1 : Int32} {s0 : Int64} {s1 : Int32} {s2 : Nat} {S : gk_S} {r : (Int32 × gk_S)} (h0 : f_X12_readRange_74 F l0 l1 s0 s1 s2 S = some r) : EvW X m_X12_readRange 8 0 0 74 [some (.ref l0), some (.int l1), none] [.long s0, .int s1, .ref s2] S (qRI r) := by
  unfold f_X12_readRange_74 at h0
  obtain ⟨g201, h202⟩ := qk_el h0; clear h0
  obtain ⟨g203, h204⟩ := qk_el h202; clear h202
  obtain ⟨S205, e206, h207⟩ := qv_el h204; clear h204
  refine yv_last (pc := 74) (isb_el g201) (inb_el g203) e206 dX12_readRange_74 ?_
  refine ev_aload_n (pc := 75) (i := 0) rfl rfl rfl dX12_readRange_75 ?_
  obtain ⟨g208, h209⟩ := qk_el h207; clear h207
  obtain ⟨b210, e211, h212⟩ := qP_el h209; clear h209
  refine xv_getP (pc := 76) fn_910 (isb_el g208) e211 gw_1150 dX12_readRange_76 ?_
  refine ev_iload_n (pc := 79) (i := 1) rfl rfl dX12_readRange_79 ?_
  refine ev_aload_n (pc := 80) (i := 0) rfl rfl rfl dX12_readRange_80 ?_
  obtain ⟨b213, e214, h215⟩ := qP_el h212; clear h212
  refine xv_getP (pc := 81) fn_909 (isb_el g208) e214 gw_1149 dX12_readRange_81 ?_
  refine ev_iload_n (pc := 84) (i := 1) rfl rfl dX12_readRange_84 ?_
  obtain ⟨g216, h217⟩ := qk_el h215; clear h215
  obtain ⟨g218, h219⟩ := qk_el h217; clear h217
  obtain ⟨x220, e221, h222⟩ := qv_el h219; clear h219
  refine yv_lald (pc := 85) (isb_el g216) (inb_el g218) e221 dX12_readRange_85 ?_
  obtain ⟨g223, h224⟩ := qk_el h222; clear h222
  obtain ⟨g225, h226⟩ := qk_el h224; clear h224
  obtain ⟨S227, e228, h229⟩ := qv_el h226; clear h226
  refine yv_last (pc := 86) (isb_el g223) (inb_el g225) e228 dX12_readRange_86 ?_
  refine ev_aload_n (pc := 87) (i := 0) rfl rfl rfl dX12_readRange_87 ?_
  obtain ⟨x230, S231, e232, h233⟩ := qc_el h229; clear h229
  refine xv_callV (pc := 88) (st := []) (as := []) (v := none) (S' := S231) ok_X12_next (e_X12_next e232) (is_wJ (isb_el g208) e228) (by decide) rfl (Nat.le_of_ble_eq_true rfl) rfl gw_1276 dX12_readRange_88 ?_
  refine ev_iconst (pc := 91) (v := 1) (by decide) dX12_readRange_91 ?_
  exact ev_ireturn (pc := 92) rfl rfl (qRI_eq h233) dX12_readRange_92
theorem e_X12_readRange {X : gk_X} {F : Nat} {S : gk_S} {a : Nat} {p0 : Int32} {p1 : Int32} {r : (Int32 × gk_S)} (h0 : f_X12_readRange F S a p0 p1 = some r) : EvM X m_X12_readRange 8 0 0 [.ref a, .int p0, .int p1] S (qRI r) := by
  unfold f_X12_readRange at h0
  refine ev_method (by decide +kernel) rfl rfl (Nat.le_of_ble_eq_true rfl) ?_
  show EvW X m_X12_readRange 8 0 0 0 [some (.ref a), some (.int p0), some (.int p1)] [] S _
  refine ev_iload_n (pc := 0) (i := 2) rfl rfl dX12_readRange_0 ?_
  refine ev_iconst (pc := 1) (v := 1) (by decide) dX12_readRange_1 ?_
  refine ev_ic_ne (pc := 2) (tgt := 93) (by decide) dX12_readRange_2 (fun c1 => ?_) (fun c1 => ?_)
  · replace h0 := qi_f h0 c1
    exact ev_weak (qL_s (qL_s (qL_s qL_nil))) (e_X12_readRange_93 h0)
  · replace h0 := qi_t h0 c1
    refine ev_aload_n (pc := 5) (i := 0) rfl rfl rfl dX12_readRange_5 ?_
    obtain ⟨g163, h164⟩ := qk_el h0; clear h0
    obtain ⟨x165, e166, h167⟩ := qv_el h164; clear h164
    refine xv_getIv (pc := 6) fn_914 (isb_el g163) e166 gw_1154 dX12_readRange_6 ?_
    refine ev_iconst (pc := 9) (v := 1) (by decide) dX12_readRange_9 ?_
    refine ev_ic_ne (pc := 10) (tgt := 93) (by decide) dX12_readRange_10 (fun c168 => ?_) (fun c168 => ?_)
    · replace h167 := qi_f h167 c168
      exact ev_weak (qL_s (qL_s (qL_s qL_nil))) (e_X12_readRange_93 h167)
    · replace h167 := qi_t h167 c168
      refine ev_aload_n (pc := 13) (i := 0) rfl rfl rfl dX12_readRange_13 ?_
      obtain ⟨x170, e171, h172⟩ := qv_el h167; clear h167
      refine xv_getIv (pc := 14) fn_916 (isb_el g163) e171 gw_1156 dX12_readRange_14 ?_
      refine ev_bipush (pc := 17) (v := 11) (by decide) dX12_readRange_17 ?_
      refine ev_ic_lt (pc := 19) (tgt := 93) (by decide) dX12_readRange_19 (fun c173 => ?_) (fun c173 => ?_)
      · replace h172 := qi_t h172 c173
        exact ev_weak (qL_s (qL_s (qL_s qL_nil))) (e_X12_readRange_93 h172)
      · replace h172 := qi_f h172 c173
        refine ev_aload_n (pc := 22) (i := 0) rfl rfl rfl dX12_readRange_22 ?_
        obtain ⟨x175, e176, h177⟩ := qv_el h172; clear h172
        refine xv_getIv (pc := 23) fn_916 (isb_el g163) e176 gw_1156 dX12_readRange_23 ?_
        refine ev_bipush (pc := 26) (v := 14) (by decide) dX12_readRange_26 ?_
        refine ev_ic_ge (pc := 28) (tgt := 93) (by decide) dX12_readRange_28 (fun c178 => ?_) (fun c178 => ?_)
        · replace h177 := qi_t h177 c178
          exact ev_weak (qL_s (qL_s (qL_s qL_nil))) (e_X12_readRange_93 h177)
        · replace h177 := qi_f h177 c178
          refine ev_aload_n (pc := 31) (i := 0) rfl rfl rfl dX12_readRange_31 ?_
          obtain ⟨x180, S181, e182, h183⟩ := qc_el h177; clear h177
          refine xv_callV (pc := 32) (st := []) (as := []) (v := (some (.int x180))) (S' := S181) ok_X12_isLate (e_X12_isLate e182) (isb_el g163) (by decide) rfl (Nat.le_of_ble_eq_true rfl) rfl gw_1316 dX12_readRange_32 ?_
          refine ev_if_ne (pc := 35) (tgt := 93) (by decide) dX12_readRange_35 (fun c184 => ?_) (fun c184 => ?_)
          · replace h183 := qi_f h183 c184
            exact ev_weak (qL_s (qL_s (qL_s qL_nil))) (e_X12_readRange_93 h183)
          · replace h183 := qi_t h183 c184
            refine ev_aload_n (pc := 38) (i := 0) rfl rfl rfl dX12_readRange_38 ?_
            obtain ⟨g186, h187⟩ := qk_el h183; clear h183
            obtain ⟨b188, e189, h190⟩ := qP_el h187; clear h187
            refine xv_getP (pc := 39) fn_909 (isb_el g186) e189 gw_1149 dX12_readRange_39 ?_
            refine ev_iload_n (pc := 42) (i := 1) rfl rfl dX12_readRange_42 ?_
            refine ev_aload_n (pc := 43) (i := 0) rfl rfl rfl dX12_readRange_43 ?_
            obtain ⟨x191, e192, h193⟩ := qv_el h190; clear h190
            refine xv_getIv (pc := 44) fn_916 (isb_el g186) e192 gw_1156 dX12_readRange_44 ?_
            refine ev_bipush (pc := 47) (v := 11) (by decide) dX12_readRange_47 ?_
            refine ev_ic_ne (pc := 49) (tgt := 58) (by decide) dX12_readRange_49 (fun c194 => ?_) (fun c194 => ?_)
            · replace h193 := qi_f h193 c194
              refine ev_aload_n (pc := 58) (i := 0) rfl rfl rfl dX12_readRange_58 ?_
              obtain ⟨x196, e197, h198⟩ := qv_el h193; clear h193
              refine xv_getIv (pc := 59) fn_916 (isb_el g186) e197 gw_1156 dX12_readRange_59 ?_
              refine ev_bipush (pc := 62) (v := 12) (by decide) dX12_readRange_62 ?_
              refine ev_ic_ne (pc := 64) (tgt := 73) (by decide) dX12_readRange_64 (fun c199 => ?_) (fun c199 => ?_)
              · replace h198 := qi_f h198 c199
                refine ev_lconst (pc := 73) (v := 1) (by decide) dX12_readRange_73 ?_
                exact ev_weak (qL_s (qL_s (qL_n qL_nil))) (e_X12_readRange_74 h198)
              · replace h198 := qi_t h198 c199
                refine ev_ldc2 (pc := 67) (v := 17) gw_1366 dX12_readRange_67 ?_
                refine ev_goto (pc := 70) (tgt := 74) (by decide) dX12_readRange_70 ?_
                exact ev_weak (qL_s (qL_s (qL_n qL_nil))) (e_X12_readRange_74 h198)
            · replace h193 := qi_t h193 c194
              refine ev_ldc2 (pc := 52) (v := 6) gw_1365 dX12_readRange_52 ?_
              refine ev_goto (pc := 55) (tgt := 74) (by decide) dX12_readRange_55 ?_
              exact ev_weak (qL_s (qL_s (qL_n qL_nil))) (e_X12_readRange_74 h193)
theorem dX12_rule_0 : decode cX12_rule 0 = .ok (.aload_n 0, 1) := by decide +kernel
theorem dX12_rule_1 : decode cX12_rule 1 = .ok (.getfield 29, 3) := by decide +kernel
theorem dX12_rule_4 : decode cX12_rule 4 = .ok (.iload_n 1, 1) := by decide +kernel
theorem dX12_rule_5 : decode cX12_rule 5 = .ok (.aload_n 0, 1) := by decide +kernel
theorem dX12_rule_6 : decode cX12_rule 6 = .ok (.getfield 136, 3) := by decide +kernel
theorem dX12_rule_9 : decode cX12_rule 9 = .ok (.iastore, 1) := by decide +kernel
theorem dX12_rule_10 : decode cX12_rule 10 = .ok (.aload_n 0, 1) := by decide +kernel
theorem dX12_rule_11 : decode cX12_rule 11 = .ok (.getfield 33, 3) := by decide +kernel
theorem dX12_rule_14 : decode cX12_rule 14 = .ok (.iload_n 1, 1) := by decide +kernel
theorem dX12_rule_15 : decode cX12_rule 15 = .ok (.bipush 15, 2) := by decide +kernel
theorem dX12_rule_17 : decode cX12_rule 17 = .ok (.iastore, 1) := by decide +kernel
theorem dX12_rule_18 : decode cX12_rule 18 = .ok (.iconst 0, 1) := by decide +kernel
theorem dX12_rule_19 : decode cX12_rule 19 = .ok (.istore_n 2, 1) := by decide +kernel
theorem dX12_rule_20 : decode cX12_rule 20 = .ok (.iload_n 2, 1) := by decide +kernel
theorem dX12_rule_21 : decode cX12_rule 21 = .ok (.bipush 6, 2) := by decide +kernel
theorem dX12_rule_23 : decode cX12_rule 23 = .ok (.if_icmp .ge 36, 3) := by decide +kernel
theorem dX12_rule_26 : decode cX12_rule 26 = .ok (.aload_n 0, 1) := by decide +kernel
theorem dX12_rule_27 : decode cX12_rule 27 = .ok (.getfield 36, 3) := by decide +kernel
theorem dX12_rule_30 : decode cX12_rule 30 = .ok (.bipush 6, 2) := by decide +kernel
theorem dX12_rule_32 : decode cX12_rule 32 = .ok (.iload_n 1, 1) := by decide +kernel
theorem dX12_rule_33 : decode cX12_rule 33 = .ok (.imul, 1) := by decide +kernel
theorem dX12_rule_34 : decode cX12_rule 34 = .ok (.iload_n 2, 1) := by decide +kernel
theorem dX12_rule_35 : decode cX12_rule 35 = .ok (.iadd, 1) := by decide +kernel
theorem dX12_rule_36 : decode cX12_rule 36 = .ok (.lconst 0, 1) := by decide +kernel
theorem dX12_rule_37 : decode cX12_rule 37 = .ok (.lastore, 1) := by decide +kernel
theorem dX12_rule_38 : decode cX12_rule 38 = .ok (.aload_n 0, 1) := by decide +kernel
theorem dX12_rule_39 : decode cX12_rule 39 = .ok (.getfield 40, 3) := by decide +kernel
theorem dX12_rule_42 : decode cX12_rule 42 = .ok (.bipush 6, 2) := by decide +kernel
theorem dX12_rule_44 : decode cX12_rule 44 = .ok (.iload_n 1, 1) := by decide +kernel
theorem dX12_rule_45 : decode cX12_rule 45 = .ok (.imul, 1) := by decide +kernel
theorem dX12_rule_46 : decode cX12_rule 46 = .ok (.iload_n 2, 1) := by decide +kernel
theorem dX12_rule_47 : decode cX12_rule 47 = .ok (.iadd, 1) := by decide +kernel
theorem dX12_rule_48 : decode cX12_rule 48 = .ok (.iload_n 2, 1) := by decide +kernel
theorem dX12_rule_49 : decode cX12_rule 49 = .ok (.invokestatic 201, 3) := by decide +kernel
theorem dX12_rule_52 : decode cX12_rule 52 = .ok (.lastore, 1) := by decide +kernel
theorem dX12_rule_53 : decode cX12_rule 53 = .ok (.iinc 2 1, 3) := by decide +kernel
theorem dX12_rule_56 : decode cX12_rule 56 = .ok (.goto (-36), 3) := by decide +kernel
theorem dX12_rule_59 : decode cX12_rule 59 = .ok (.iconst 0, 1) := by decide +kernel
theorem dX12_rule_60 : decode cX12_rule 60 = .ok (.istore_n 2, 1) := by decide +kernel
theorem dX12_rule_61 : decode cX12_rule 61 = .ok (.aload_n 0, 1) := by decide +kernel
theorem dX12_rule_62 : decode cX12_rule 62 = .ok (.invokevirtual 173, 3) := by decide +kernel
theorem dX12_rule_65 : decode cX12_rule 65 = .ok (.aload_n 0, 1) := by decide +kernel
theorem dX12_rule_66 : decode cX12_rule 66 = .ok (.getfield 120, 3) := by decide +kernel
theorem dX12_rule_69 : decode cX12_rule 69 = .ok (.iconst 1, 1) := by decide +kernel
theorem dX12_rule_70 : decode cX12_rule 70 = .ok (.if_icmp .ne 121, 3) := by decide +kernel
theorem dX12_rule_73 : decode cX12_rule 73 = .ok (.aload_n 0, 1) := by decide +kernel
theorem dX12_rule_74 : decode cX12_rule 74 = .ok (.getfield 136, 3) := by decide +kernel
theorem dX12_rule_77 : decode cX12_rule 77 = .ok (.iconst 4, 1) := by decide +kernel
theorem dX12_rule_78 : decode cX12_rule 78 = .ok (.if_icmp .lt 113, 3) := by decide +kernel
theorem dX12_rule_81 : decode cX12_rule 81 = .ok (.aload_n 0, 1) := by decide +kernel
theorem dX12_rule_82 : decode cX12_rule 82 = .ok (.getfield 136, 3) := by decide +kernel
theorem dX12_rule_85 : decode cX12_rule 85 = .ok (.bipush 10, 2) := by decide +kernel
theorem dX12_rule_87 : decode cX12_rule 87 = .ok (.if_icmp .gt 104, 3) := by decide +kernel
theorem dX12_rule_90 : decode cX12_rule 90 = .ok (.aload_n 0, 1) := by decide +kernel
theorem dX12_rule_91 : decode cX12_rule 91 = .ok (.invokevirtual 160, 3) := by decide +kernel
theorem dX12_rule_94 : decode cX12_rule 94 = .ok (.ifCond .ne 97, 3) := by decide +kernel
theorem dX12_rule_97 : decode cX12_rule 97 = .ok (.aload_n 0, 1) := by decide +kernel
theorem dX12_rule_98 : decode cX12_rule 98 = .ok (.getfield 136, 3) := by decide +kernel
theorem dX12_rule_101 : decode cX12_rule 101 = .ok (.iconst 4, 1) := by decide +kernel
theorem dX12_rule_102 : decode cX12_rule 102 = .ok (.isub, 1) := by decide +kernel
theorem dX12_rule_103 : decode cX12_rule 103 = .ok (.istore_n 3, 1) := by decide +kernel
theorem dX12_rule_104 : decode cX12_rule 104 = .ok (.iload_n 2, 1) := by decide +kernel
theorem dX12_rule_105 : decode cX12_rule 105 = .ok (.iload_n 3, 1) := by decide +kernel
theorem dX12_rule_106 : decode cX12_rule 106 = .ok (.ishr, 1) := by decide +kernel
theorem dX12_rule_107 : decode cX12_rule 107 = .ok (.iconst 1, 1) := by decide +kernel
theorem dX12_rule_108 : decode cX12_rule 108 = .ok (.iand, 1) := by decide +kernel
theorem dX12_rule_109 : decode cX12_rule 109 = .ok (.iconst 1, 1) := by decide +kernel
theorem dX12_rule_110 : decode cX12_rule 110 = .ok (.if_icmp .ne 9, 3) := by decide +kernel
theorem dX12_rule_113 : decode cX12_rule 113 = .ok (.aload_n 0, 1) := by decide +kernel
theorem dX12_rule_114 : decode cX12_rule 114 = .ok (.iconst 4, 1) := by decide +kernel
theorem dX12_rule_115 : decode cX12_rule 115 = .ok (.invokevirtual 164, 3) := by decide +kernel
theorem dX12_rule_118 : decode cX12_rule 118 = .ok (.ireturn, 1) := by decide +kernel
theorem dX12_rule_119 : decode cX12_rule 119 = .ok (.iload_n 2, 1) := by decide +kernel
theorem dX12_rule_120 : decode cX12_rule 120 = .ok (.iconst 1, 1) := by decide +kernel
theorem dX12_rule_121 : decode cX12_rule 121 = .ok (.iload_n 3, 1) := by decide +kernel
theorem dX12_rule_122 : decode cX12_rule 122 = .ok (.ishl, 1) := by decide +kernel
theorem dX12_rule_123 : decode cX12_rule 123 = .ok (.ior, 1) := by decide +kernel
theorem dX12_rule_124 : decode cX12_rule 124 = .ok (.istore_n 2, 1) := by decide +kernel
theorem dX12_rule_125 : decode cX12_rule 125 = .ok (.aload_n 0, 1) := by decide +kernel
theorem dX12_rule_126 : decode cX12_rule 126 = .ok (.invokevirtual 173, 3) := by decide +kernel
theorem dX12_rule_129 : decode cX12_rule 129 = .ok (.iload_n 3, 1) := by decide +kernel
theorem dX12_rule_130 : decode cX12_rule 130 = .ok (.bipush 6, 2) := by decide +kernel
theorem dX12_rule_132 : decode cX12_rule 132 = .ok (.if_icmp .ne 14, 3) := by decide +kernel
theorem dX12_rule_135 : decode cX12_rule 135 = .ok (.aload_n 0, 1) := by decide +kernel
theorem dX12_rule_136 : decode cX12_rule 136 = .ok (.iload_n 1, 1) := by decide +kernel
theorem dX12_rule_137 : decode cX12_rule 137 = .ok (.invokevirtual 205, 3) := by decide +kernel
theorem dX12_rule_140 : decode cX12_rule 140 = .ok (.ifCond .eq 46, 3) := by decide +kernel
theorem dX12_rule_143 : decode cX12_rule 143 = .ok (.goto 45, 3) := by decide +kernel
theorem dX12_rule_146 : decode cX12_rule 146 = .ok (.iload_n 3, 1) := by decide +kernel
theorem dX12_rule_147 : decode cX12_rule 147 = .ok (.iconst 2, 1) := by decide +kernel
theorem dX12_rule_148 : decode cX12_rule 148 = .ok (.if_icmp .eq 8, 3) := by decide +kernel
theorem dX12_rule_151 : decode cX12_rule 151 = .ok (.iload_n 3, 1) := by decide +kernel
theorem dX12_rule_152 : decode cX12_rule 152 = .ok (.iconst 3, 1) := by decide +kernel
theorem dX12_rule_153 : decode cX12_rule 153 = .ok (.if_icmp .ne 19, 3) := by decide +kernel
theorem dX12_rule_156 : decode cX12_rule 156 = .ok (.aload_n 0, 1) := by decide +kernel
theorem dX12_rule_157 : decode cX12_rule 157 = .ok (.bipush 6, 2) := by decide +kernel
theorem dX12_rule_159 : decode cX12_rule 159 = .ok (.iload_n 1, 1) := by decide +kernel
theorem dX12_rule_160 : decode cX12_rule 160 = .ok (.imul, 1) := by decide +kernel
theorem dX12_rule_161 : decode cX12_rule 161 = .ok (.iload_n 3, 1) := by decide +kernel
theorem dX12_rule_162 : decode cX12_rule 162 = .ok (.iadd, 1) := by decide +kernel
theorem dX12_rule_163 : decode cX12_rule 163 = .ok (.invokevirtual 208, 3) := by decide +kernel
theorem dX12_rule_166 : decode cX12_rule 166 = .ok (.ifCond .eq 20, 3) := by decide +kernel
theorem dX12_rule_169 : decode cX12_rule 169 = .ok (.goto 19, 3) := by decide +kernel
theorem dX12_rule_172 : decode cX12_rule 172 = .ok (.aload_n 0, 1) := by decide +kernel
theorem dX12_rule_173 : decode cX12_rule 173 = .ok (.bipush 6, 2) := by decide +kernel
theorem dX12_rule_175 : decode cX12_rule 175 = .ok (.iload_n 1, 1) := by decide +kernel
theorem dX12_rule_176 : decode cX12_rule 176 = .ok (.imul, 1) := by decide +kernel
theorem dX12_rule_177 : decode cX12_rule 177 = .ok (.iload_n 3, 1) := by decide +kernel
theorem dX12_rule_178 : decode cX12_rule 178 = .ok (.iadd, 1) := by decide +kernel
theorem dX12_rule_179 : decode cX12_rule 179 = .ok (.iload_n 3, 1) := by decide +kernel
theorem dX12_rule_180 : decode cX12_rule 180 = .ok (.invokevirtual 211, 3) := by decide +kernel
theorem dX12_rule_183 : decode cX12_rule 183 = .ok (.ifCond .ne 5, 3) := by decide +kernel
theorem dX12_rule_186 : decode cX12_rule 186 = .ok (.iconst 0, 1) := by decide +kernel
theorem dX12_rule_187 : decode cX12_rule 187 = .ok (.ireturn, 1) := by decide +kernel
theorem dX12_rule_188 : decode cX12_rule 188 = .ok (.goto (-123), 3) := by decide +kernel
theorem dX12_rule_191 : decode cX12_rule 191 = .ok (.aload_n 0, 1) := by decide +kernel
theorem dX12_rule_192 : decode cX12_rule 192 = .ok (.bipush 59, 2) := by decide +kernel
theorem dX12_rule_194 : decode cX12_rule 194 = .ok (.invokevirtual 195, 3) := by decide +kernel
theorem dX12_rule_197 : decode cX12_rule 197 = .ok (.ireturn, 1) := by decide +kernel
theorem e_X12_rule_191 {X : gk_X} {F : Nat} {l0 : Nat} {S : gk_S} {r : (Int32 × gk_S)} (h0 : f_X12_rule_191 F l0 S = some r) : EvW X m_X12_rule 9 0 0 191 [some (.ref l0), none, none, none] [] S (qRI r) := by
  unfold f_X12_rule_191 at h0
  refine ev_aload_n (pc := 191) (i := 0) rfl rfl rfl dX12_rule_191 ?_
  refine ev_bipush (pc := 192) (v := 59) (by decide) dX12_rule_192 ?_
  obtain ⟨g41, h42⟩ := qk_el h0; clear h0
  obtain ⟨x43, S44, e45, h46⟩ := qc_el h42; clear h42
  refine xv_callV (pc := 194) (st := []) (as := [.int 59]) (v := (some (.int x43))) (S' := S44) ok_X12_mustSign (e_X12_mustSign e45) (isb_el g41) (by decide) rfl (Nat.le_of_ble_eq_true rfl) rfl gw_1332 dX12_rule_194 ?_
  obtain ⟨g47, h48⟩ := qk_el h46; clear h46
  exact ev_ireturn (pc := 197) rfl (zb_nar g47) (qRI_eq h48) dX12_rule_197
theorem e_X12_rule_156 {X : gk_X} {F : Nat} {k65 : Nat → Int32 → Int32 → gk_S → Option (Int32 × gk_S)} (hk65 : ∀ (l0 : Nat) (l1 : Int32) (l2 : Int32) (S : gk_S) (r : (Int32 × gk_S)), k65 l0 l1 l2 S = some r → EvW X m_X12_rule 9 0 0 65 [some (.ref l0), some (.int l1), some (.int l2), none] [] S (qRI r)) {l0 : Nat} {l1 : Int32} {l2 : Int32} {l3 : Int32} {S : gk_S} {r : (Int32 × gk_S)} (h0 : f_X12_rule_156 F k65 l0 l1 l2 l3 S = some r) : EvW X m_X12_rule 9 0 0 156 [some (.ref l0), some (.int l1), some (.int l2), some (.int l3)] [] S (qRI r) := by
  unfold f_X12_rule_156 at h0
  refine ev_aload_n (pc := 156) (i := 0) rfl rfl rfl dX12_rule_156 ?_
  refine ev_bipush (pc := 157) (v := 6) (by decide) dX12_rule_157 ?_
  refine ev_iload_n (pc := 159) (i := 1) rfl rfl dX12_rule_159 ?_
  refine ev_imul (pc := 160)  dX12_rule_160 ?_
  refine ev_iload_n (pc := 161) (i := 3) rfl rfl dX12_rule_161 ?_
  refine ev_iadd (pc := 162)  dX12_rule_162 ?_
  obtain ⟨g83, h84⟩ := qk_el h0; clear h0
  obtain ⟨x85, S86, e87, h88⟩ := qc_el h84; clear h84
  refine xv_callV (pc := 163) (st := []) (as := [.int ((6 * l1) + l3)]) (v := (some (.int x85))) (S' := S86) ok_X12_readAddresses (e_X12_readAddresses e87) (isb_el g83) (by decide) rfl (Nat.le_of_ble_eq_true rfl) rfl gw_1355 dX12_rule_163 ?_
  refine ev_if_eq (pc := 166) (tgt := 186) (by decide) dX12_rule_166 (fun c89 => ?_) (fun c89 => ?_)
  · replace h88 := qi_t h88 c89
    refine ev_iconst (pc := 186) (v := 0) (by decide) dX12_rule_186 ?_
    exact ev_ireturn (pc := 187) rfl rfl (qRI_eq h88) dX12_rule_187
  · replace h88 := qi_f h88 c89
    refine ev_goto (pc := 169) (tgt := 188) (by decide) dX12_rule_169 ?_
    refine ev_goto (pc := 188) (tgt := 65) (by decide) dX12_rule_188 ?_
    exact ev_weak (qL_s (qL_s (qL_s (qL_n qL_nil)))) (hk65 _ _ _ _ _ h88)
theorem e_X12_rule_65 {X : gk_X} {F : Nat} : ∀ (n : Nat) (l0 : Nat) (l1 : Int32) (l2 : Int32) (S : gk_S) (r : (Int32 × gk_S)), f_X12_rule_65 F n l0 l1 l2 S = some r → EvW X m_X12_rule 9 0 0 65 [some (.ref l0), some (.int l1), some (.int l2), none] [] S (qRI r) := by
  intro n
  induction n with
  | zero => intro l0 l1 l2 S r h0; rw [f_X12_rule_65] at h0; cases h0
  | succ n ih =>
    intro l0 l1 l2 S r h0; rw [f_X12_rule_65] at h0
    refine ev_aload_n (pc := 65) (i := 0) rfl rfl rfl dX12_rule_65 ?_
    obtain ⟨g34, h35⟩ := qk_el h0; clear h0
    obtain ⟨x36, e37, h38⟩ := qv_el h35; clear h35
    refine xv_getIv (pc := 66) fn_914 (isb_el g34) e37 gw_1154 dX12_rule_66 ?_
    refine ev_iconst (pc := 69) (v := 1) (by decide) dX12_rule_69 ?_
    refine ev_ic_ne (pc := 70) (tgt := 191) (by decide) dX12_rule_70 (fun c39 => ?_) (fun c39 => ?_)
    · replace h38 := qi_f h38 c39
      exact ev_weak (qL_s (qL_n (qL_n (qL_n qL_nil)))) (e_X12_rule_191 h38)
    · replace h38 := qi_t h38 c39
      refine ev_aload_n (pc := 73) (i := 0) rfl rfl rfl dX12_rule_73 ?_
      obtain ⟨x49, e50, h51⟩ := qv_el h38; clear h38
      refine xv_getIv (pc := 74) fn_916 (isb_el g34) e50 gw_1156 dX12_rule_74 ?_
      refine ev_iconst (pc := 77) (v := 4) (by decide) dX12_rule_77 ?_
      refine ev_ic_lt (pc := 78) (tgt := 191) (by decide) dX12_rule_78 (fun c52 => ?_) (fun c52 => ?_)
      · replace h51 := qi_t h51 c52
        exact ev_weak (qL_s (qL_n (qL_n (qL_n qL_nil)))) (e_X12_rule_191 h51)
      · replace h51 := qi_f h51 c52
        refine ev_aload_n (pc := 81) (i := 0) rfl rfl rfl dX12_rule_81 ?_
        obtain ⟨x54, e55, h56⟩ := qv_el h51; clear h51
        refine xv_getIv (pc := 82) fn_916 (isb_el g34) e55 gw_1156 dX12_rule_82 ?_
        refine ev_bipush (pc := 85) (v := 10) (by decide) dX12_rule_85 ?_
        refine ev_ic_gt (pc := 87) (tgt := 191) (by decide) dX12_rule_87 (fun c57 => ?_) (fun c57 => ?_)
        · replace h56 := qi_t h56 c57
          exact ev_weak (qL_s (qL_n (qL_n (qL_n qL_nil)))) (e_X12_rule_191 h56)
        · replace h56 := qi_f h56 c57
          refine ev_aload_n (pc := 90) (i := 0) rfl rfl rfl dX12_rule_90 ?_
          obtain ⟨x59, S60, e61, h62⟩ := qc_el h56; clear h56
          refine xv_callV (pc := 91) (st := []) (as := []) (v := (some (.int x59))) (S' := S60) ok_X12_isLate (e_X12_isLate e61) (isb_el g34) (by decide) rfl (Nat.le_of_ble_eq_true rfl) rfl gw_1316 dX12_rule_91 ?_
          refine ev_if_ne (pc := 94) (tgt := 191) (by decide) dX12_rule_94 (fun c63 => ?_) (fun c63 => ?_)
          · replace h62 := qi_f h62 c63
            exact ev_weak (qL_s (qL_n (qL_n (qL_n qL_nil)))) (e_X12_rule_191 h62)
          · replace h62 := qi_t h62 c63
            refine ev_aload_n (pc := 97) (i := 0) rfl rfl rfl dX12_rule_97 ?_
            obtain ⟨g65, h66⟩ := qk_el h62; clear h62
            obtain ⟨x67, e68, h69⟩ := qv_el h66; clear h66
            refine xv_getIv (pc := 98) fn_916 (isb_el g65) e68 gw_1156 dX12_rule_98 ?_
            refine ev_iconst (pc := 101) (v := 4) (by decide) dX12_rule_101 ?_
            refine ev_isub (pc := 102)  dX12_rule_102 ?_
            refine ev_istore_n (pc := 103) (L' := [some (.ref l0), some (.int l1), some (.int l2), some (.int (x67 - 4))]) (i := 3) rfl (by decide) rfl rfl dX12_rule_103 ?_
            refine ev_iload_n (pc := 104) (i := 2) rfl rfl dX12_rule_104 ?_
            refine ev_iload_n (pc := 105) (i := 3) rfl rfl dX12_rule_105 ?_
            refine ev_ishr (pc := 106)  dX12_rule_106 ?_
            refine ev_iconst (pc := 107) (v := 1) (by decide) dX12_rule_107 ?_
            refine ev_iand (pc := 108)  dX12_rule_108 ?_
            refine ev_iconst (pc := 109) (v := 1) (by decide) dX12_rule_109 ?_
            refine ev_ic_ne (pc := 110) (tgt := 119) (by decide) dX12_rule_110 (fun c70 => ?_) (fun c70 => ?_)
            · replace h69 := qi_f h69 c70
              refine ev_iload_n (pc := 119) (i := 2) rfl rfl dX12_rule_119 ?_
              refine ev_iconst (pc := 120) (v := 1) (by decide) dX12_rule_120 ?_
              refine ev_iload_n (pc := 121) (i := 3) rfl rfl dX12_rule_121 ?_
              refine ev_ishl (pc := 122)  dX12_rule_122 ?_
              refine ev_ior (pc := 123)  dX12_rule_123 ?_
              obtain ⟨x72, e73, h74⟩ := qv_el h69; clear h69
              refine xv_top e73 ?_
              refine ev_istore_n (pc := 124) (L' := [some (.ref l0), some (.int l1), some (.int x72), some (.int (x67 - 4))]) (i := 2) rfl (by decide) rfl rfl dX12_rule_124 ?_
              refine ev_aload_n (pc := 125) (i := 0) rfl rfl rfl dX12_rule_125 ?_
              obtain ⟨x75, S76, e77, h78⟩ := qc_el h74; clear h74
              refine xv_callV (pc := 126) (st := []) (as := []) (v := none) (S' := S76) ok_X12_next (e_X12_next e77) (isb_el g65) (by decide) rfl (Nat.le_of_ble_eq_true rfl) rfl gw_1276 dX12_rule_126 ?_
              refine ev_iload_n (pc := 129) (i := 3) rfl rfl dX12_rule_129 ?_
              refine ev_bipush (pc := 130) (v := 6) (by decide) dX12_rule_130 ?_
              refine ev_ic_ne (pc := 132) (tgt := 146) (by decide) dX12_rule_132 (fun c79 => ?_) (fun c79 => ?_)
              · replace h78 := qi_f h78 c79
                refine ev_iload_n (pc := 146) (i := 3) rfl rfl dX12_rule_146 ?_
                refine ev_iconst (pc := 147) (v := 2) (by decide) dX12_rule_147 ?_
                refine ev_ic_eq (pc := 148) (tgt := 156) (by decide) dX12_rule_148 (fun c81 => ?_) (fun c81 => ?_)
                · replace h78 := qi_t h78 c81
                  exact ev_weak (qL_s (qL_s (qL_s (qL_s qL_nil)))) (e_X12_rule_156 ih h78)
                · replace h78 := qi_f h78 c81
                  refine ev_iload_n (pc := 151) (i := 3) rfl rfl dX12_rule_151 ?_
                  refine ev_iconst (pc := 152) (v := 3) (by decide) dX12_rule_152 ?_
                  refine ev_ic_ne (pc := 153) (tgt := 172) (by decide) dX12_rule_153 (fun c91 => ?_) (fun c91 => ?_)
                  · replace h78 := qi_f h78 c91
                    refine ev_aload_n (pc := 172) (i := 0) rfl rfl rfl dX12_rule_172 ?_
                    refine ev_bipush (pc := 173) (v := 6) (by decide) dX12_rule_173 ?_
                    refine ev_iload_n (pc := 175) (i := 1) rfl rfl dX12_rule_175 ?_
                    refine ev_imul (pc := 176)  dX12_rule_176 ?_
                    refine ev_iload_n (pc := 177) (i := 3) rfl rfl dX12_rule_177 ?_
                    refine ev_iadd (pc := 178)  dX12_rule_178 ?_
                    refine ev_iload_n (pc := 179) (i := 3) rfl rfl dX12_rule_179 ?_
                    obtain ⟨g93, h94⟩ := qk_el h78; clear h78
                    obtain ⟨x95, S96, e97, h98⟩ := qc_el h94; clear h94
                    refine xv_callV (pc := 180) (st := []) (as := [.int ((6 * l1) + (x67 - 4)), .int (x67 - 4)]) (v := (some (.int x95))) (S' := S96) ok_X12_readRange (e_X12_readRange e97) (isb_el g93) (by decide) rfl (Nat.le_of_ble_eq_true rfl) rfl gw_1361 dX12_rule_180 ?_
                    refine ev_if_ne (pc := 183) (tgt := 188) (by decide) dX12_rule_183 (fun c99 => ?_) (fun c99 => ?_)
                    · replace h98 := qi_f h98 c99
                      refine ev_goto (pc := 188) (tgt := 65) (by decide) dX12_rule_188 ?_
                      exact (ev_weak (qL_s (qL_s (qL_s (qL_n qL_nil)))) (ih _ _ _ _ _ h98))
                    · replace h98 := qi_t h98 c99
                      refine ev_iconst (pc := 186) (v := 0) (by decide) dX12_rule_186 ?_
                      exact ev_ireturn (pc := 187) rfl rfl (qRI_eq h98) dX12_rule_187
                  · replace h78 := qi_t h78 c91
                    exact ev_weak (qL_s (qL_s (qL_s (qL_s qL_nil)))) (e_X12_rule_156 ih h78)
              · replace h78 := qi_t h78 c79
                refine ev_aload_n (pc := 135) (i := 0) rfl rfl rfl dX12_rule_135 ?_
                refine ev_iload_n (pc := 136) (i := 1) rfl rfl dX12_rule_136 ?_
                obtain ⟨g101, h102⟩ := qk_el h78; clear h78
                obtain ⟨x103, S104, e105, h106⟩ := qc_el h102; clear h102
                refine xv_callV (pc := 137) (st := []) (as := [.int l1]) (v := (some (.int x103))) (S' := S104) ok_X12_readStates (e_X12_readStates e105) (isb_el g101) (by decide) rfl (Nat.le_of_ble_eq_true rfl) rfl gw_1351 dX12_rule_137 ?_
                refine ev_if_eq (pc := 140) (tgt := 186) (by decide) dX12_rule_140 (fun c107 => ?_) (fun c107 => ?_)
                · replace h106 := qi_t h106 c107
                  refine ev_iconst (pc := 186) (v := 0) (by decide) dX12_rule_186 ?_
                  exact ev_ireturn (pc := 187) rfl rfl (qRI_eq h106) dX12_rule_187
                · replace h106 := qi_f h106 c107
                  refine ev_goto (pc := 143) (tgt := 188) (by decide) dX12_rule_143 ?_
                  refine ev_goto (pc := 188) (tgt := 65) (by decide) dX12_rule_188 ?_
                  exact (ev_weak (qL_s (qL_s (qL_s (qL_n qL_nil)))) (ih _ _ _ _ _ h106))
            · replace h69 := qi_t h69 c70
              refine ev_aload_n (pc := 113) (i := 0) rfl rfl rfl dX12_rule_113 ?_
              refine ev_iconst (pc := 114) (v := 4) (by decide) dX12_rule_114 ?_
              obtain ⟨x109, S110, e111, h112⟩ := qc_el h69; clear h69
              refine xv_callV (pc := 115) (st := []) (as := [.int 4]) (v := (some (.int x109))) (S' := S110) ok_X12_wrong (e_X12_wrong e111) (isb_el g65) (by decide) rfl (Nat.le_of_ble_eq_true rfl) rfl gw_1328 dX12_rule_115 ?_
              obtain ⟨g113, h114⟩ := qk_el h112; clear h112
              exact ev_ireturn (pc := 118) rfl (zb_nar g113) (qRI_eq h114) dX12_rule_118
theorem e_X12_rule_20 {X : gk_X} {F : Nat} : ∀ (n : Nat) (l0 : Nat) (l1 : Int32) (l2 : Int32) (S : gk_S) (r : (Int32 × gk_S)), f_X12_rule_20 F n l0 l1 l2 S = some r → EvW X m_X12_rule 9 0 0 20 [some (.ref l0), some (.int l1), some (.int l2), none] [] S (qRI r) := by
  intro n
  induction n with
  | zero => intro l0 l1 l2 S r h0; rw [f_X12_rule_20] at h0; cases h0
  | succ n ih =>
    intro l0 l1 l2 S r h0; rw [f_X12_rule_20] at h0
    refine ev_iload_n (pc := 20) (i := 2) rfl rfl dX12_rule_20 ?_
    refine ev_bipush (pc := 21) (v := 6) (by decide) dX12_rule_21 ?_
    refine ev_ic_ge (pc := 23) (tgt := 59) (by decide) dX12_rule_23 (fun c26 => ?_) (fun c26 => ?_)
    · replace h0 := qi_t h0 c26
      refine ev_iconst (pc := 59) (v := 0) (by decide) dX12_rule_59 ?_
      refine ev_istore_n (pc := 60) (L' := [some (.ref l0), some (.int l1), some (.int 0), none]) (i := 2) rfl (by decide) rfl rfl dX12_rule_60 ?_
      refine ev_aload_n (pc := 61) (i := 0) rfl rfl rfl dX12_rule_61 ?_
      obtain ⟨g28, h29⟩ := qk_el h0; clear h0
      obtain ⟨x30, S31, e32, h33⟩ := qc_el h29; clear h29
      refine xv_callV (pc := 62) (st := []) (as := []) (v := none) (S' := S31) ok_X12_next (e_X12_next e32) (isb_el g28) (by decide) rfl (Nat.le_of_ble_eq_true rfl) rfl gw_1276 dX12_rule_62 ?_
      exact ev_weak (qL_s (qL_s (qL_s (qL_n qL_nil)))) (e_X12_rule_65 F _ _ _ _ _ h33)
    · replace h0 := qi_f h0 c26
      refine ev_aload_n (pc := 26) (i := 0) rfl rfl rfl dX12_rule_26 ?_
      obtain ⟨g115, h116⟩ := qk_el h0; clear h0
      obtain ⟨b117, e118, h119⟩ := qP_el h116; clear h116
      refine xv_getP (pc := 27) fn_909 (isb_el g115) e118 gw_1149 dX12_rule_27 ?_
      refine ev_bipush (pc := 30) (v := 6) (by decide) dX12_rule_30 ?_
      refine ev_iload_n (pc := 32) (i := 1) rfl rfl dX12_rule_32 ?_
      refine ev_imul (pc := 33)  dX12_rule_33 ?_
      refine ev_iload_n (pc := 34) (i := 2) rfl rfl dX12_rule_34 ?_
      refine ev_iadd (pc := 35)  dX12_rule_35 ?_
      refine ev_lconst (pc := 36) (v := 0) (by decide) dX12_rule_36 ?_
      obtain ⟨g120, h121⟩ := qk_el h119; clear h119
      obtain ⟨g122, h123⟩ := qk_el h121; clear h121
      obtain ⟨S124, e125, h126⟩ := qv_el h123; clear h123
      refine yv_last (pc := 37) (isb_el g120) (inb_el g122) e125 dX12_rule_37 ?_
      refine ev_aload_n (pc := 38) (i := 0) rfl rfl rfl dX12_rule_38 ?_
      obtain ⟨b127, e128, h129⟩ := qP_el h126; clear h126
      refine xv_getP (pc := 39) fn_910 (is_wJ (isb_el g115) e125) e128 gw_1150 dX12_rule_39 ?_
      refine ev_bipush (pc := 42) (v := 6) (by decide) dX12_rule_42 ?_
      refine ev_iload_n (pc := 44) (i := 1) rfl rfl dX12_rule_44 ?_
      refine ev_imul (pc := 45)  dX12_rule_45 ?_
      refine ev_iload_n (pc := 46) (i := 2) rfl rfl dX12_rule_46 ?_
      refine ev_iadd (pc := 47)  dX12_rule_47 ?_
      refine ev_iload_n (pc := 48) (i := 2) rfl rfl dX12_rule_48 ?_
      obtain ⟨x130, S131, e132, h133⟩ := qc_el h129; clear h129
      refine xv_callS (pc := 49) (st := [.int ((6 * l1) + l2), .ref b127]) (as := [.int l2]) (v := (some (.long x130))) (S' := S131) ok_X12_most (e_X12_most e132) (by decide) rfl (Nat.le_of_ble_eq_true rfl) rfl gw_1344 dX12_rule_49 ?_
      obtain ⟨g134, h135⟩ := qk_el h133; clear h133
      obtain ⟨g136, h137⟩ := qk_el h135; clear h135
      obtain ⟨S138, e139, h140⟩ := qv_el h137; clear h137
      refine yv_last (pc := 52) (isb_el g134) (inb_el g136) e139 dX12_rule_52 ?_
      refine ev_iinc (pc := 53) (L' := [some (.ref l0), some (.int l1), some (.int (l2 + 1)), none]) (i := 2) (v := (l2 + 1)) rfl rfl (by decide) rfl rfl dX12_rule_53 ?_
      refine ev_goto (pc := 56) (tgt := 20) (by decide) dX12_rule_56 ?_
      exact (ev_weak (qL_s (qL_s (qL_s (qL_n qL_nil)))) (ih _ _ _ _ _ h140))
theorem e_X12_rule {X : gk_X} {F : Nat} {S : gk_S} {a : Nat} {p0 : Int32} {r : (Int32 × gk_S)} (h0 : f_X12_rule F S a p0 = some r) : EvM X m_X12_rule 9 0 0 [.ref a, .int p0] S (qRI r) := by
  unfold f_X12_rule at h0
  refine ev_method (by decide +kernel) rfl rfl (Nat.le_of_ble_eq_true rfl) ?_
  show EvW X m_X12_rule 9 0 0 0 [some (.ref a), some (.int p0), none, none] [] S _
  refine ev_aload_n (pc := 0) (i := 0) rfl rfl rfl dX12_rule_0 ?_
  obtain ⟨g1, h2⟩ := qk_el h0; clear h0
  obtain ⟨b3, e4, h5⟩ := qP_el h2; clear h2
  refine xv_getP (pc := 1) fn_907 (isb_el g1) e4 gw_1147 dX12_rule_1 ?_
  refine ev_iload_n (pc := 4) (i := 1) rfl rfl dX12_rule_4 ?_
  refine ev_aload_n (pc := 5) (i := 0) rfl rfl rfl dX12_rule_5 ?_
  obtain ⟨x6, e7, h8⟩ := qv_el h5; clear h5
  refine xv_getIv (pc := 6) fn_916 (isb_el g1) e7 gw_1156 dX12_rule_6 ?_
  obtain ⟨g9, h10⟩ := qk_el h8; clear h8
  obtain ⟨g11, h12⟩ := qk_el h10; clear h10
  obtain ⟨S13, e14, h15⟩ := qv_el h12; clear h12
  refine yv_iast (pc := 9) (isb_el g9) (inb_el g11) e14 dX12_rule_9 ?_
  refine ev_aload_n (pc := 10) (i := 0) rfl rfl rfl dX12_rule_10 ?_
  obtain ⟨b16, e17, h18⟩ := qP_el h15; clear h15
  refine xv_getP (pc := 11) fn_908 (is_wI (isb_el g1) e14) e17 gw_1148 dX12_rule_11 ?_
  refine ev_iload_n (pc := 14) (i := 1) rfl rfl dX12_rule_14 ?_
  refine ev_bipush (pc := 15) (v := 15) (by decide) dX12_rule_15 ?_
  obtain ⟨g19, h20⟩ := qk_el h18; clear h18
  obtain ⟨g21, h22⟩ := qk_el h20; clear h20
  obtain ⟨S23, e24, h25⟩ := qv_el h22; clear h22
  refine yv_iast (pc := 17) (isb_el g19) (inb_el g21) e24 dX12_rule_17 ?_
  refine ev_iconst (pc := 18) (v := 0) (by decide) dX12_rule_18 ?_
  refine ev_istore_n (pc := 19) (L' := [some (.ref a), some (.int p0), some (.int 0), none]) (i := 2) rfl (by decide) rfl rfl dX12_rule_19 ?_
  exact ev_weak (qL_s (qL_s (qL_s (qL_n qL_nil)))) (e_X12_rule_20 F _ _ _ _ _ h25)
theorem dX12_text_0 : decode cX12_text 0 = .ok (.aload_n 0, 1) := by decide +kernel
theorem dX12_text_1 : decode cX12_text 1 = .ok (.getfield 43, 3) := by decide +kernel
theorem dX12_text_4 : decode cX12_text 4 = .ok (.iconst 4, 1) := by decide +kernel
theorem dX12_text_5 : decode cX12_text 5 = .ok (.iconst 0, 1) := by decide +kernel
theorem dX12_text_6 : decode cX12_text 6 = .ok (.iastore, 1) := by decide +kernel
theorem dX12_text_7 : decode cX12_text 7 = .ok (.aload_n 0, 1) := by decide +kernel
theorem dX12_text_8 : decode cX12_text 8 = .ok (.getfield 46, 3) := by decide +kernel
theorem dX12_text_11 : decode cX12_text 11 = .ok (.iconst 4, 1) := by decide +kernel
theorem dX12_text_12 : decode cX12_text 12 = .ok (.iconst 0, 1) := by decide +kernel
theorem dX12_text_13 : decode cX12_text 13 = .ok (.iastore, 1) := by decide +kernel
theorem dX12_text_14 : decode cX12_text 14 = .ok (.aload_n 0, 1) := by decide +kernel
theorem dX12_text_15 : decode cX12_text 15 = .ok (.iconst 3, 1) := by decide +kernel
theorem dX12_text_16 : decode cX12_text 16 = .ok (.invokevirtual 189, 3) := by decide +kernel
theorem dX12_text_19 : decode cX12_text 19 = .ok (.ifCond .eq 44, 3) := by decide +kernel
theorem dX12_text_22 : decode cX12_text 22 = .ok (.aload_n 0, 1) := by decide +kernel
theorem dX12_text_23 : decode cX12_text 23 = .ok (.invokevirtual 173, 3) := by decide +kernel
theorem dX12_text_26 : decode cX12_text 26 = .ok (.aload_n 0, 1) := by decide +kernel
theorem dX12_text_27 : decode cX12_text 27 = .ok (.invokevirtual 192, 3) := by decide +kernel
theorem dX12_text_30 : decode cX12_text 30 = .ok (.ifCond .ne 8, 3) := by decide +kernel
theorem dX12_text_33 : decode cX12_text 33 = .ok (.aload_n 0, 1) := by decide +kernel
theorem dX12_text_34 : decode cX12_text 34 = .ok (.invokevirtual 170, 3) := by decide +kernel
theorem dX12_text_37 : decode cX12_text 37 = .ok (.ireturn, 1) := by decide +kernel
theorem dX12_text_38 : decode cX12_text 38 = .ok (.aload_n 0, 1) := by decide +kernel
theorem dX12_text_39 : decode cX12_text 39 = .ok (.getfield 43, 3) := by decide +kernel
theorem dX12_text_42 : decode cX12_text 42 = .ok (.iconst 4, 1) := by decide +kernel
theorem dX12_text_43 : decode cX12_text 43 = .ok (.aload_n 0, 1) := by decide +kernel
theorem dX12_text_44 : decode cX12_text 44 = .ok (.getfield 136, 3) := by decide +kernel
theorem dX12_text_47 : decode cX12_text 47 = .ok (.iastore, 1) := by decide +kernel
theorem dX12_text_48 : decode cX12_text 48 = .ok (.aload_n 0, 1) := by decide +kernel
theorem dX12_text_49 : decode cX12_text 49 = .ok (.invokevirtual 173, 3) := by decide +kernel
theorem dX12_text_52 : decode cX12_text 52 = .ok (.aload_n 0, 1) := by decide +kernel
theorem dX12_text_53 : decode cX12_text 53 = .ok (.bipush 59, 2) := by decide +kernel
theorem dX12_text_55 : decode cX12_text 55 = .ok (.invokevirtual 195, 3) := by decide +kernel
theorem dX12_text_58 : decode cX12_text 58 = .ok (.ifCond .ne 5, 3) := by decide +kernel
theorem dX12_text_61 : decode cX12_text 61 = .ok (.iconst 0, 1) := by decide +kernel
theorem dX12_text_62 : decode cX12_text 62 = .ok (.ireturn, 1) := by decide +kernel
theorem dX12_text_63 : decode cX12_text 63 = .ok (.aload_n 0, 1) := by decide +kernel
theorem dX12_text_64 : decode cX12_text 64 = .ok (.getfield 120, 3) := by decide +kernel
theorem dX12_text_67 : decode cX12_text 67 = .ok (.ifCond .ne 10, 3) := by decide +kernel
theorem dX12_text_70 : decode cX12_text 70 = .ok (.aload_n 0, 1) := by decide +kernel
theorem dX12_text_71 : decode cX12_text 71 = .ok (.invokevirtual 160, 3) := by decide +kernel
theorem dX12_text_74 : decode cX12_text 74 = .ok (.ifCond .eq 63, 3) := by decide +kernel
theorem dX12_text_77 : decode cX12_text 77 = .ok (.aload_n 0, 1) := by decide +kernel
theorem dX12_text_78 : decode cX12_text 78 = .ok (.invokevirtual 192, 3) := by decide +kernel
theorem dX12_text_81 : decode cX12_text 81 = .ok (.ifCond .ne 8, 3) := by decide +kernel
theorem dX12_text_84 : decode cX12_text 84 = .ok (.aload_n 0, 1) := by decide +kernel
theorem dX12_text_85 : decode cX12_text 85 = .ok (.invokevirtual 170, 3) := by decide +kernel
theorem dX12_text_88 : decode cX12_text 88 = .ok (.ireturn, 1) := by decide +kernel
theorem dX12_text_89 : decode cX12_text 89 = .ok (.aload_n 0, 1) := by decide +kernel
theorem dX12_text_90 : decode cX12_text 90 = .ok (.getfield 46, 3) := by decide +kernel
theorem dX12_text_93 : decode cX12_text 93 = .ok (.iconst 4, 1) := by decide +kernel
theorem dX12_text_94 : decode cX12_text 94 = .ok (.iaload, 1) := by decide +kernel
theorem dX12_text_95 : decode cX12_text 95 = .ok (.bipush 16, 2) := by decide +kernel
theorem dX12_text_97 : decode cX12_text 97 = .ok (.if_icmp .ne 9, 3) := by decide +kernel
theorem dX12_text_100 : decode cX12_text 100 = .ok (.aload_n 0, 1) := by decide +kernel
theorem dX12_text_101 : decode cX12_text 101 = .ok (.iconst 4, 1) := by decide +kernel
theorem dX12_text_102 : decode cX12_text 102 = .ok (.invokevirtual 164, 3) := by decide +kernel
theorem dX12_text_105 : decode cX12_text 105 = .ok (.ireturn, 1) := by decide +kernel
theorem dX12_text_106 : decode cX12_text 106 = .ok (.aload_n 0, 1) := by decide +kernel
theorem dX12_text_107 : decode cX12_text 107 = .ok (.bipush 64, 2) := by decide +kernel
theorem dX12_text_109 : decode cX12_text 109 = .ok (.aload_n 0, 1) := by decide +kernel
theorem dX12_text_110 : decode cX12_text 110 = .ok (.getfield 46, 3) := by decide +kernel
theorem dX12_text_113 : decode cX12_text 113 = .ok (.iconst 4, 1) := by decide +kernel
theorem dX12_text_114 : decode cX12_text 114 = .ok (.iaload, 1) := by decide +kernel
theorem dX12_text_115 : decode cX12_text 115 = .ok (.iadd, 1) := by decide +kernel
theorem dX12_text_116 : decode cX12_text 116 = .ok (.invokevirtual 198, 3) := by decide +kernel
theorem dX12_text_119 : decode cX12_text 119 = .ok (.ifCond .ne 5, 3) := by decide +kernel
theorem dX12_text_122 : decode cX12_text 122 = .ok (.iconst 0, 1) := by decide +kernel
theorem dX12_text_123 : decode cX12_text 123 = .ok (.ireturn, 1) := by decide +kernel
theorem dX12_text_124 : decode cX12_text 124 = .ok (.aload_n 0, 1) := by decide +kernel
theorem dX12_text_125 : decode cX12_text 125 = .ok (.getfield 46, 3) := by decide +kernel
theorem dX12_text_128 : decode cX12_text 128 = .ok (.iconst 4, 1) := by decide +kernel
theorem dX12_text_129 : decode cX12_text 129 = .ok (.dup2, 1) := by decide +kernel
theorem dX12_text_130 : decode cX12_text 130 = .ok (.iaload, 1) := by decide +kernel
theorem dX12_text_131 : decode cX12_text 131 = .ok (.iconst 1, 1) := by decide +kernel
theorem dX12_text_132 : decode cX12_text 132 = .ok (.iadd, 1) := by decide +kernel
theorem dX12_text_133 : decode cX12_text 133 = .ok (.iastore, 1) := by decide +kernel
theorem dX12_text_134 : decode cX12_text 134 = .ok (.goto (-71), 3) := by decide +kernel
theorem dX12_text_137 : decode cX12_text 137 = .ok (.iconst 1, 1) := by decide +kernel
theorem dX12_text_138 : decode cX12_text 138 = .ok (.ireturn, 1) := by decide +kernel
theorem e_X12_text_77 {X : gk_X} {F : Nat} {k63 : Nat → gk_S → Option (Int32 × gk_S)} (hk63 : ∀ (l0 : Nat) (S : gk_S) (r : (Int32 × gk_S)), k63 l0 S = some r → EvW X m_X12_text 10 0 0 63 [some (.ref l0)] [] S (qRI r)) {l0 : Nat} {S : gk_S} {r : (Int32 × gk_S)} (h0 : f_X12_text_77 F k63 l0 S = some r) : EvW X m_X12_text 10 0 0 77 [some (.ref l0)] [] S (qRI r) := by
  unfold f_X12_text_77 at h0
  refine ev_aload_n (pc := 77) (i := 0) rfl rfl rfl dX12_text_77 ?_
  obtain ⟨g36, h37⟩ := qk_el h0; clear h0
  obtain ⟨x38, S39, e40, h41⟩ := qc_el h37; clear h37
  refine xv_callV (pc := 78) (st := []) (as := []) (v := (some (.int x38))) (S' := S39) ok_X12_isAction (e_X12_isAction e40) (isb_el g36) (by decide) rfl (Nat.le_of_ble_eq_true rfl) rfl gw_1320 dX12_text_78 ?_
  refine ev_if_ne (pc := 81) (tgt := 89) (by decide) dX12_text_81 (fun c42 => ?_) (fun c42 => ?_)
  · replace h41 := qi_f h41 c42
    refine ev_aload_n (pc := 89) (i := 0) rfl rfl rfl dX12_text_89 ?_
    obtain ⟨g44, h45⟩ := qk_el h41; clear h41
    obtain ⟨b46, e47, h48⟩ := qP_el h45; clear h45
    refine xv_getP (pc := 90) fn_906 (isb_el g44) e47 gw_1146 dX12_text_90 ?_
    refine ev_iconst (pc := 93) (v := 4) (by decide) dX12_text_93 ?_
    obtain ⟨g49, h50⟩ := qk_el h48; clear h48
    obtain ⟨g51, h52⟩ := qk_el h50; clear h50
    obtain ⟨x53, e54, h55⟩ := qv_el h52; clear h52
    refine yv_iald (pc := 94) (isb_el g49) (inb_el g51) e54 dX12_text_94 ?_
    refine ev_bipush (pc := 95) (v := 16) (by decide) dX12_text_95 ?_
    refine ev_ic_ne (pc := 97) (tgt := 106) (by decide) dX12_text_97 (fun c56 => ?_) (fun c56 => ?_)
    · replace h55 := qi_f h55 c56
      refine ev_aload_n (pc := 106) (i := 0) rfl rfl rfl dX12_text_106 ?_
      refine ev_bipush (pc := 107) (v := 64) (by decide) dX12_text_107 ?_
      refine ev_aload_n (pc := 109) (i := 0) rfl rfl rfl dX12_text_109 ?_
      obtain ⟨b58, e59, h60⟩ := qP_el h55; clear h55
      refine xv_getP (pc := 110) fn_906 (isb_el g44) e59 gw_1146 dX12_text_110 ?_
      refine ev_iconst (pc := 113) (v := 4) (by decide) dX12_text_113 ?_
      obtain ⟨g61, h62⟩ := qk_el h60; clear h60
      obtain ⟨g63, h64⟩ := qk_el h62; clear h62
      obtain ⟨x65, e66, h67⟩ := qv_el h64; clear h64
      refine yv_iald (pc := 114) (isb_el g61) (inb_el g63) e66 dX12_text_114 ?_
      refine ev_iadd (pc := 115)  dX12_text_115 ?_
      obtain ⟨x68, S69, e70, h71⟩ := qc_el h67; clear h67
      refine xv_callV (pc := 116) (st := []) (as := [.int (64 + x65)]) (v := (some (.int x68))) (S' := S69) ok_X12_rule (e_X12_rule e70) (isb_el g44) (by decide) rfl (Nat.le_of_ble_eq_true rfl) rfl gw_1340 dX12_text_116 ?_
      refine ev_if_ne (pc := 119) (tgt := 124) (by decide) dX12_text_119 (fun c72 => ?_) (fun c72 => ?_)
      · replace h71 := qi_f h71 c72
        refine ev_aload_n (pc := 124) (i := 0) rfl rfl rfl dX12_text_124 ?_
        obtain ⟨g74, h75⟩ := qk_el h71; clear h71
        obtain ⟨b76, e77, h78⟩ := qP_el h75; clear h75
        refine xv_getP (pc := 125) fn_906 (isb_el g74) e77 gw_1146 dX12_text_125 ?_
        refine ev_iconst (pc := 128) (v := 4) (by decide) dX12_text_128 ?_
        refine ev_dup2 (pc := 129) rfl dX12_text_129 ?_
        obtain ⟨g79, h80⟩ := qk_el h78; clear h78
        obtain ⟨g81, h82⟩ := qk_el h80; clear h80
        obtain ⟨x83, e84, h85⟩ := qv_el h82; clear h82
        refine yv_iald (pc := 130) (isb_el g79) (inb_el g81) e84 dX12_text_130 ?_
        refine ev_iconst (pc := 131) (v := 1) (by decide) dX12_text_131 ?_
        refine ev_iadd (pc := 132)  dX12_text_132 ?_
        obtain ⟨g86, h87⟩ := qk_el h85; clear h85
        obtain ⟨S88, e89, h90⟩ := qv_el h87; clear h87
        refine yv_iast (pc := 133) (isb_el g79) (inb_el g86) e89 dX12_text_133 ?_
        refine ev_goto (pc := 134) (tgt := 63) (by decide) dX12_text_134 ?_
        exact ev_weak (qL_s qL_nil) (hk63 _ _ _ h90)
      · replace h71 := qi_t h71 c72
        refine ev_iconst (pc := 122) (v := 0) (by decide) dX12_text_122 ?_
        exact ev_ireturn (pc := 123) rfl rfl (qRI_eq h71) dX12_text_123
    · replace h55 := qi_t h55 c56
      refine ev_aload_n (pc := 100) (i := 0) rfl rfl rfl dX12_text_100 ?_
      refine ev_iconst (pc := 101) (v := 4) (by decide) dX12_text_101 ?_
      obtain ⟨x91, S92, e93, h94⟩ := qc_el h55; clear h55
      refine xv_callV (pc := 102) (st := []) (as := [.int 4]) (v := (some (.int x91))) (S' := S92) ok_X12_wrong (e_X12_wrong e93) (isb_el g44) (by decide) rfl (Nat.le_of_ble_eq_true rfl) rfl gw_1328 dX12_text_102 ?_
      obtain ⟨g95, h96⟩ := qk_el h94; clear h94
      exact ev_ireturn (pc := 105) rfl (zb_nar g95) (qRI_eq h96) dX12_text_105
  · replace h41 := qi_t h41 c42
    refine ev_aload_n (pc := 84) (i := 0) rfl rfl rfl dX12_text_84 ?_
    obtain ⟨g97, h98⟩ := qk_el h41; clear h41
    obtain ⟨x99, S100, e101, h102⟩ := qc_el h98; clear h98
    refine xv_callV (pc := 85) (st := []) (as := []) (v := (some (.int x99))) (S' := S100) ok_X12_cant (e_X12_cant e101) (isb_el g97) (by decide) rfl (Nat.le_of_ble_eq_true rfl) rfl gw_1324 dX12_text_85 ?_
    obtain ⟨g103, h104⟩ := qk_el h102; clear h102
    exact ev_ireturn (pc := 88) rfl (zb_nar g103) (qRI_eq h104) dX12_text_88
theorem e_X12_text_63 {X : gk_X} {F : Nat} : ∀ (n : Nat) (l0 : Nat) (S : gk_S) (r : (Int32 × gk_S)), f_X12_text_63 F n l0 S = some r → EvW X m_X12_text 10 0 0 63 [some (.ref l0)] [] S (qRI r) := by
  intro n
  induction n with
  | zero => intro l0 S r h0; rw [f_X12_text_63] at h0; cases h0
  | succ n ih =>
    intro l0 S r h0; rw [f_X12_text_63] at h0
    refine ev_aload_n (pc := 63) (i := 0) rfl rfl rfl dX12_text_63 ?_
    obtain ⟨g29, h30⟩ := qk_el h0; clear h0
    obtain ⟨x31, e32, h33⟩ := qv_el h30; clear h30
    refine xv_getIv (pc := 64) fn_914 (isb_el g29) e32 gw_1154 dX12_text_64 ?_
    refine ev_if_ne (pc := 67) (tgt := 77) (by decide) dX12_text_67 (fun c34 => ?_) (fun c34 => ?_)
    · replace h33 := qi_f h33 c34
      exact ev_weak (qL_s qL_nil) (e_X12_text_77 ih h33)
    · replace h33 := qi_t h33 c34
      refine ev_aload_n (pc := 70) (i := 0) rfl rfl rfl dX12_text_70 ?_
      obtain ⟨x105, S106, e107, h108⟩ := qc_el h33; clear h33
      refine xv_callV (pc := 71) (st := []) (as := []) (v := (some (.int x105))) (S' := S106) ok_X12_isLate (e_X12_isLate e107) (isb_el g29) (by decide) rfl (Nat.le_of_ble_eq_true rfl) rfl gw_1316 dX12_text_71 ?_
      refine ev_if_eq (pc := 74) (tgt := 137) (by decide) dX12_text_74 (fun c109 => ?_) (fun c109 => ?_)
      · replace h108 := qi_t h108 c109
        refine ev_iconst (pc := 137) (v := 1) (by decide) dX12_text_137 ?_
        exact ev_ireturn (pc := 138) rfl rfl (qRI_eq h108) dX12_text_138
      · replace h108 := qi_f h108 c109
        exact ev_weak (qL_s qL_nil) (e_X12_text_77 ih h108)
theorem e_X12_text {X : gk_X} {F : Nat} {S : gk_S} {a : Nat} {r : (Int32 × gk_S)} (h0 : f_X12_text F S a = some r) : EvM X m_X12_text 10 0 0 [.ref a] S (qRI r) := by
  unfold f_X12_text at h0
  refine ev_method (by decide +kernel) rfl rfl (Nat.le_of_ble_eq_true rfl) ?_
  show EvW X m_X12_text 10 0 0 0 [some (.ref a)] [] S _
  refine ev_aload_n (pc := 0) (i := 0) rfl rfl rfl dX12_text_0 ?_
  obtain ⟨g1, h2⟩ := qk_el h0; clear h0
  obtain ⟨b3, e4, h5⟩ := qP_el h2; clear h2
  refine xv_getP (pc := 1) fn_905 (isb_el g1) e4 gw_1145 dX12_text_1 ?_
  refine ev_iconst (pc := 4) (v := 4) (by decide) dX12_text_4 ?_
  refine ev_iconst (pc := 5) (v := 0) (by decide) dX12_text_5 ?_
  obtain ⟨g6, h7⟩ := qk_el h5; clear h5
  obtain ⟨g8, h9⟩ := qk_el h7; clear h7
  obtain ⟨S10, e11, h12⟩ := qv_el h9; clear h9
  refine yv_iast (pc := 6) (isb_el g6) (inb_el g8) e11 dX12_text_6 ?_
  refine ev_aload_n (pc := 7) (i := 0) rfl rfl rfl dX12_text_7 ?_
  obtain ⟨b13, e14, h15⟩ := qP_el h12; clear h12
  refine xv_getP (pc := 8) fn_906 (is_wI (isb_el g1) e11) e14 gw_1146 dX12_text_8 ?_
  refine ev_iconst (pc := 11) (v := 4) (by decide) dX12_text_11 ?_
  refine ev_iconst (pc := 12) (v := 0) (by decide) dX12_text_12 ?_
  obtain ⟨g16, h17⟩ := qk_el h15; clear h15
  obtain ⟨g18, h19⟩ := qk_el h17; clear h17
  obtain ⟨S20, e21, h22⟩ := qv_el h19; clear h19
  refine yv_iast (pc := 13) (isb_el g16) (inb_el g18) e21 dX12_text_13 ?_
  refine ev_aload_n (pc := 14) (i := 0) rfl rfl rfl dX12_text_14 ?_
  refine ev_iconst (pc := 15) (v := 3) (by decide) dX12_text_15 ?_
  obtain ⟨x23, S24, e25, h26⟩ := qc_el h22; clear h22
  refine xv_callV (pc := 16) (st := []) (as := [.int 3]) (v := (some (.int x23))) (S' := S24) ok_X12_isWord (e_X12_isWord e25) (is_wI (is_wI (isb_el g1) e11) e21) (by decide) rfl (Nat.le_of_ble_eq_true rfl) rfl gw_1312 dX12_text_16 ?_
  refine ev_if_eq (pc := 19) (tgt := 63) (by decide) dX12_text_19 (fun c27 => ?_) (fun c27 => ?_)
  · replace h26 := qi_t h26 c27
    exact ev_weak (qL_s qL_nil) (e_X12_text_63 F _ _ _ h26)
  · replace h26 := qi_f h26 c27
    refine ev_aload_n (pc := 22) (i := 0) rfl rfl rfl dX12_text_22 ?_
    obtain ⟨g111, h112⟩ := qk_el h26; clear h26
    obtain ⟨x113, S114, e115, h116⟩ := qc_el h112; clear h112
    refine xv_callV (pc := 23) (st := []) (as := []) (v := none) (S' := S114) ok_X12_next (e_X12_next e115) (isb_el g111) (by decide) rfl (Nat.le_of_ble_eq_true rfl) rfl gw_1276 dX12_text_23 ?_
    refine ev_aload_n (pc := 26) (i := 0) rfl rfl rfl dX12_text_26 ?_
    obtain ⟨g117, h118⟩ := qk_el h116; clear h116
    obtain ⟨x119, S120, e121, h122⟩ := qc_el h118; clear h118
    refine xv_callV (pc := 27) (st := []) (as := []) (v := (some (.int x119))) (S' := S120) ok_X12_isAction (e_X12_isAction e121) (isb_el g117) (by decide) rfl (Nat.le_of_ble_eq_true rfl) rfl gw_1320 dX12_text_27 ?_
    refine ev_if_ne (pc := 30) (tgt := 38) (by decide) dX12_text_30 (fun c123 => ?_) (fun c123 => ?_)
    · replace h122 := qi_f h122 c123
      refine ev_aload_n (pc := 38) (i := 0) rfl rfl rfl dX12_text_38 ?_
      obtain ⟨g125, h126⟩ := qk_el h122; clear h122
      obtain ⟨b127, e128, h129⟩ := qP_el h126; clear h126
      refine xv_getP (pc := 39) fn_905 (isb_el g125) e128 gw_1145 dX12_text_39 ?_
      refine ev_iconst (pc := 42) (v := 4) (by decide) dX12_text_42 ?_
      refine ev_aload_n (pc := 43) (i := 0) rfl rfl rfl dX12_text_43 ?_
      obtain ⟨x130, e131, h132⟩ := qv_el h129; clear h129
      refine xv_getIv (pc := 44) fn_916 (isb_el g125) e131 gw_1156 dX12_text_44 ?_
      obtain ⟨g133, h134⟩ := qk_el h132; clear h132
      obtain ⟨g135, h136⟩ := qk_el h134; clear h134
      obtain ⟨S137, e138, h139⟩ := qv_el h136; clear h136
      refine yv_iast (pc := 47) (isb_el g133) (inb_el g135) e138 dX12_text_47 ?_
      refine ev_aload_n (pc := 48) (i := 0) rfl rfl rfl dX12_text_48 ?_
      obtain ⟨x140, S141, e142, h143⟩ := qc_el h139; clear h139
      refine xv_callV (pc := 49) (st := []) (as := []) (v := none) (S' := S141) ok_X12_next (e_X12_next e142) (is_wI (isb_el g125) e138) (by decide) rfl (Nat.le_of_ble_eq_true rfl) rfl gw_1276 dX12_text_49 ?_
      refine ev_aload_n (pc := 52) (i := 0) rfl rfl rfl dX12_text_52 ?_
      refine ev_bipush (pc := 53) (v := 59) (by decide) dX12_text_53 ?_
      obtain ⟨g144, h145⟩ := qk_el h143; clear h143
      obtain ⟨x146, S147, e148, h149⟩ := qc_el h145; clear h145
      refine xv_callV (pc := 55) (st := []) (as := [.int 59]) (v := (some (.int x146))) (S' := S147) ok_X12_mustSign (e_X12_mustSign e148) (isb_el g144) (by decide) rfl (Nat.le_of_ble_eq_true rfl) rfl gw_1332 dX12_text_55 ?_
      refine ev_if_ne (pc := 58) (tgt := 63) (by decide) dX12_text_58 (fun c150 => ?_) (fun c150 => ?_)
      · replace h149 := qi_f h149 c150
        exact ev_weak (qL_s qL_nil) (e_X12_text_63 F _ _ _ h149)
      · replace h149 := qi_t h149 c150
        refine ev_iconst (pc := 61) (v := 0) (by decide) dX12_text_61 ?_
        exact ev_ireturn (pc := 62) rfl rfl (qRI_eq h149) dX12_text_62
    · replace h122 := qi_t h122 c123
      refine ev_aload_n (pc := 33) (i := 0) rfl rfl rfl dX12_text_33 ?_
      obtain ⟨g152, h153⟩ := qk_el h122; clear h122
      obtain ⟨x154, S155, e156, h157⟩ := qc_el h153; clear h153
      refine xv_callV (pc := 34) (st := []) (as := []) (v := (some (.int x154))) (S' := S155) ok_X12_cant (e_X12_cant e156) (isb_el g152) (by decide) rfl (Nat.le_of_ble_eq_true rfl) rfl gw_1324 dX12_text_34 ?_
      obtain ⟨g158, h159⟩ := qk_el h157; clear h157
      exact ev_ireturn (pc := 37) rfl (zb_nar g158) (qRI_eq h159) dX12_text_37
theorem dX12_copyRule_0 : decode cX12_copyRule 0 = .ok (.aload_n 0, 1) := by decide +kernel
theorem dX12_copyRule_1 : decode cX12_copyRule 1 = .ok (.getfield 29, 3) := by decide +kernel
theorem dX12_copyRule_4 : decode cX12_copyRule 4 = .ok (.iload_n 2, 1) := by decide +kernel
theorem dX12_copyRule_5 : decode cX12_copyRule 5 = .ok (.aload_n 0, 1) := by decide +kernel
theorem dX12_copyRule_6 : decode cX12_copyRule 6 = .ok (.getfield 29, 3) := by decide +kernel
theorem dX12_copyRule_9 : decode cX12_copyRule 9 = .ok (.iload_n 1, 1) := by decide +kernel
theorem dX12_copyRule_10 : decode cX12_copyRule 10 = .ok (.iaload, 1) := by decide +kernel
theorem dX12_copyRule_11 : decode cX12_copyRule 11 = .ok (.iastore, 1) := by decide +kernel
theorem dX12_copyRule_12 : decode cX12_copyRule 12 = .ok (.aload_n 0, 1) := by decide +kernel
theorem dX12_copyRule_13 : decode cX12_copyRule 13 = .ok (.getfield 33, 3) := by decide +kernel
theorem dX12_copyRule_16 : decode cX12_copyRule 16 = .ok (.iload_n 2, 1) := by decide +kernel
theorem dX12_copyRule_17 : decode cX12_copyRule 17 = .ok (.aload_n 0, 1) := by decide +kernel
theorem dX12_copyRule_18 : decode cX12_copyRule 18 = .ok (.getfield 33, 3) := by decide +kernel
theorem dX12_copyRule_21 : decode cX12_copyRule 21 = .ok (.iload_n 1, 1) := by decide +kernel
theorem dX12_copyRule_22 : decode cX12_copyRule 22 = .ok (.iaload, 1) := by decide +kernel
theorem dX12_copyRule_23 : decode cX12_copyRule 23 = .ok (.iastore, 1) := by decide +kernel
theorem dX12_copyRule_24 : decode cX12_copyRule 24 = .ok (.iconst 0, 1) := by decide +kernel
theorem dX12_copyRule_25 : decode cX12_copyRule 25 = .ok (.istore_n 3, 1) := by decide +kernel
theorem dX12_copyRule_26 : decode cX12_copyRule 26 = .ok (.iload_n 3, 1) := by decide +kernel
theorem dX12_copyRule_27 : decode cX12_copyRule 27 = .ok (.bipush 6, 2) := by decide +kernel
theorem dX12_copyRule_29 : decode cX12_copyRule 29 = .ok (.if_icmp .ge 53, 3) := by decide +kernel
theorem dX12_copyRule_32 : decode cX12_copyRule 32 = .ok (.aload_n 0, 1) := by decide +kernel
theorem dX12_copyRule_33 : decode cX12_copyRule 33 = .ok (.getfield 36, 3) := by decide +kernel
theorem dX12_copyRule_36 : decode cX12_copyRule 36 = .ok (.bipush 6, 2) := by decide +kernel
theorem dX12_copyRule_38 : decode cX12_copyRule 38 = .ok (.iload_n 2, 1) := by decide +kernel
theorem dX12_copyRule_39 : decode cX12_copyRule 39 = .ok (.imul, 1) := by decide +kernel
theorem dX12_copyRule_40 : decode cX12_copyRule 40 = .ok (.iload_n 3, 1) := by decide +kernel
theorem dX12_copyRule_41 : decode cX12_copyRule 41 = .ok (.iadd, 1) := by decide +kernel
theorem dX12_copyRule_42 : decode cX12_copyRule 42 = .ok (.aload_n 0, 1) := by decide +kernel
theorem dX12_copyRule_43 : decode cX12_copyRule 43 = .ok (.getfield 36, 3) := by decide +kernel
theorem dX12_copyRule_46 : decode cX12_copyRule 46 = .ok (.bipush 6, 2) := by decide +kernel
theorem dX12_copyRule_48 : decode cX12_copyRule 48 = .ok (.iload_n 1, 1) := by decide +kernel
theorem dX12_copyRule_49 : decode cX12_copyRule 49 = .ok (.imul, 1) := by decide +kernel
theorem dX12_copyRule_50 : decode cX12_copyRule 50 = .ok (.iload_n 3, 1) := by decide +kernel
theorem dX12_copyRule_51 : decode cX12_copyRule 51 = .ok (.iadd, 1) := by decide +kernel
theorem dX12_copyRule_52 : decode cX12_copyRule 52 = .ok (.laload, 1) := by decide +kernel
theorem dX12_copyRule_53 : decode cX12_copyRule 53 = .ok (.lastore, 1) := by decide +kernel
theorem dX12_copyRule_54 : decode cX12_copyRule 54 = .ok (.aload_n 0, 1) := by decide +kernel
theorem dX12_copyRule_55 : decode cX12_copyRule 55 = .ok (.getfield 40, 3) := by decide +kernel
theorem dX12_copyRule_58 : decode cX12_copyRule 58 = .ok (.bipush 6, 2) := by decide +kernel
theorem dX12_copyRule_60 : decode cX12_copyRule 60 = .ok (.iload_n 2, 1) := by decide +kernel
theorem dX12_copyRule_61 : decode cX12_copyRule 61 = .ok (.imul, 1) := by decide +kernel
theorem dX12_copyRule_62 : decode cX12_copyRule 62 = .ok (.iload_n 3, 1) := by decide +kernel
theorem dX12_copyRule_63 : decode cX12_copyRule 63 = .ok (.iadd, 1) := by decide +kernel
theorem dX12_copyRule_64 : decode cX12_copyRule 64 = .ok (.aload_n 0, 1) := by decide +kernel
theorem dX12_copyRule_65 : decode cX12_copyRule 65 = .ok (.getfield 40, 3) := by decide +kernel
theorem dX12_copyRule_68 : decode cX12_copyRule 68 = .ok (.bipush 6, 2) := by decide +kernel
theorem dX12_copyRule_70 : decode cX12_copyRule 70 = .ok (.iload_n 1, 1) := by decide +kernel
theorem dX12_copyRule_71 : decode cX12_copyRule 71 = .ok (.imul, 1) := by decide +kernel
theorem dX12_copyRule_72 : decode cX12_copyRule 72 = .ok (.iload_n 3, 1) := by decide +kernel
theorem dX12_copyRule_73 : decode cX12_copyRule 73 = .ok (.iadd, 1) := by decide +kernel
theorem dX12_copyRule_74 : decode cX12_copyRule 74 = .ok (.laload, 1) := by decide +kernel
theorem dX12_copyRule_75 : decode cX12_copyRule 75 = .ok (.lastore, 1) := by decide +kernel
theorem dX12_copyRule_76 : decode cX12_copyRule 76 = .ok (.iinc 3 1, 3) := by decide +kernel
theorem dX12_copyRule_79 : decode cX12_copyRule 79 = .ok (.goto (-53), 3) := by decide +kernel
theorem dX12_copyRule_82 : decode cX12_copyRule 82 = .ok (.return_, 1) := by decide +kernel
theorem e_X12_copyRule_26 {X : gk_X} {F : Nat} : ∀ (n : Nat) (l0 : Nat) (l1 : Int32) (l2 : Int32) (l3 : Int32) (S : gk_S) (r : (Unit × gk_S)), f_X12_copyRule_26 F n l0 l1 l2 l3 S = some r → EvW X m_X12_copyRule 1 0 0 26 [some (.ref l0), some (.int l1), some (.int l2), some (.int l3)] [] S (qRU r) := by
  intro n
  induction n with
  | zero => intro l0 l1 l2 l3 S r h0; rw [f_X12_copyRule_26] at h0; cases h0
  | succ n ih =>
    intro l0 l1 l2 l3 S r h0; rw [f_X12_copyRule_26] at h0
    refine ev_iload_n (pc := 26) (i := 3) rfl rfl dX12_copyRule_26 ?_
    refine ev_bipush (pc := 27) (v := 6) (by decide) dX12_copyRule_27 ?_
    refine ev_ic_ge (pc := 29) (tgt := 82) (by decide) dX12_copyRule_29 (fun c43 => ?_) (fun c43 => ?_)
    · replace h0 := qi_t h0 c43
      exact ev_return (pc := 82) rfl (qRU_eq h0) dX12_copyRule_82
    · replace h0 := qi_f h0 c43
      refine ev_aload_n (pc := 32) (i := 0) rfl rfl rfl dX12_copyRule_32 ?_
      obtain ⟨g45, h46⟩ := qk_el h0; clear h0
      obtain ⟨b47, e48, h49⟩ := qP_el h46; clear h46
      refine xv_getP (pc := 33) fn_909 (isb_el g45) e48 gw_1149 dX12_copyRule_33 ?_
      refine ev_bipush (pc := 36) (v := 6) (by decide) dX12_copyRule_36 ?_
      refine ev_iload_n (pc := 38) (i := 2) rfl rfl dX12_copyRule_38 ?_
      refine ev_imul (pc := 39)  dX12_copyRule_39 ?_
      refine ev_iload_n (pc := 40) (i := 3) rfl rfl dX12_copyRule_40 ?_
      refine ev_iadd (pc := 41)  dX12_copyRule_41 ?_
      refine ev_aload_n (pc := 42) (i := 0) rfl rfl rfl dX12_copyRule_42 ?_
      obtain ⟨b50, e51, h52⟩ := qP_el h49; clear h49
      refine xv_getP (pc := 43) fn_909 (isb_el g45) e51 gw_1149 dX12_copyRule_43 ?_
      refine ev_bipush (pc := 46) (v := 6) (by decide) dX12_copyRule_46 ?_
      refine ev_iload_n (pc := 48) (i := 1) rfl rfl dX12_copyRule_48 ?_
      refine ev_imul (pc := 49)  dX12_copyRule_49 ?_
      refine ev_iload_n (pc := 50) (i := 3) rfl rfl dX12_copyRule_50 ?_
      refine ev_iadd (pc := 51)  dX12_copyRule_51 ?_
      obtain ⟨g53, h54⟩ := qk_el h52; clear h52
      obtain ⟨g55, h56⟩ := qk_el h54; clear h54
      obtain ⟨x57, e58, h59⟩ := qv_el h56; clear h56
      refine yv_lald (pc := 52) (isb_el g53) (inb_el g55) e58 dX12_copyRule_52 ?_
      obtain ⟨g60, h61⟩ := qk_el h59; clear h59
      obtain ⟨g62, h63⟩ := qk_el h61; clear h61
      obtain ⟨S64, e65, h66⟩ := qv_el h63; clear h63
      refine yv_last (pc := 53) (isb_el g60) (inb_el g62) e65 dX12_copyRule_53 ?_
      refine ev_aload_n (pc := 54) (i := 0) rfl rfl rfl dX12_copyRule_54 ?_
      obtain ⟨b67, e68, h69⟩ := qP_el h66; clear h66
      refine xv_getP (pc := 55) fn_910 (is_wJ (isb_el g45) e65) e68 gw_1150 dX12_copyRule_55 ?_
      refine ev_bipush (pc := 58) (v := 6) (by decide) dX12_copyRule_58 ?_
      refine ev_iload_n (pc := 60) (i := 2) rfl rfl dX12_copyRule_60 ?_
      refine ev_imul (pc := 61)  dX12_copyRule_61 ?_
      refine ev_iload_n (pc := 62) (i := 3) rfl rfl dX12_copyRule_62 ?_
      refine ev_iadd (pc := 63)  dX12_copyRule_63 ?_
      refine ev_aload_n (pc := 64) (i := 0) rfl rfl rfl dX12_copyRule_64 ?_
      obtain ⟨b70, e71, h72⟩ := qP_el h69; clear h69
      refine xv_getP (pc := 65) fn_910 (is_wJ (isb_el g45) e65) e71 gw_1150 dX12_copyRule_65 ?_
      refine ev_bipush (pc := 68) (v := 6) (by decide) dX12_copyRule_68 ?_
      refine ev_iload_n (pc := 70) (i := 1) rfl rfl dX12_copyRule_70 ?_
      refine ev_imul (pc := 71)  dX12_copyRule_71 ?_
      refine ev_iload_n (pc := 72) (i := 3) rfl rfl dX12_copyRule_72 ?_
      refine ev_iadd (pc := 73)  dX12_copyRule_73 ?_
      obtain ⟨g73, h74⟩ := qk_el h72; clear h72
      obtain ⟨g75, h76⟩ := qk_el h74; clear h74
      obtain ⟨x77, e78, h79⟩ := qv_el h76; clear h76
      refine yv_lald (pc := 74) (isb_el g73) (inb_el g75) e78 dX12_copyRule_74 ?_
      obtain ⟨g80, h81⟩ := qk_el h79; clear h79
      obtain ⟨g82, h83⟩ := qk_el h81; clear h81
      obtain ⟨S84, e85, h86⟩ := qv_el h83; clear h83
      refine yv_last (pc := 75) (isb_el g80) (inb_el g82) e85 dX12_copyRule_75 ?_
      refine ev_iinc (pc := 76) (L' := [some (.ref l0), some (.int l1), some (.int l2), some (.int (l3 + 1))]) (i := 3) (v := (l3 + 1)) rfl rfl (by decide) rfl rfl dX12_copyRule_76 ?_
      refine ev_goto (pc := 79) (tgt := 26) (by decide) dX12_copyRule_79 ?_
      exact (ev_weak (qL_s (qL_s (qL_s (qL_s qL_nil)))) (ih _ _ _ _ _ _ h86))
theorem e_X12_copyRule {X : gk_X} {F : Nat} {S : gk_S} {a : Nat} {p0 : Int32} {p1 : Int32} {r : (Unit × gk_S)} (h0 : f_X12_copyRule F S a p0 p1 = some r) : EvM X m_X12_copyRule 1 0 0 [.ref a, .int p0, .int p1] S (qRU r) := by
  unfold f_X12_copyRule at h0
  refine ev_method (by decide +kernel) rfl rfl (Nat.le_of_ble_eq_true rfl) ?_
  show EvW X m_X12_copyRule 1 0 0 0 [some (.ref a), some (.int p0), some (.int p1), none] [] S _
  refine ev_aload_n (pc := 0) (i := 0) rfl rfl rfl dX12_copyRule_0 ?_
  obtain ⟨g1, h2⟩ := qk_el h0; clear h0
  obtain ⟨b3, e4, h5⟩ := qP_el h2; clear h2
  refine xv_getP (pc := 1) fn_907 (isb_el g1) e4 gw_1147 dX12_copyRule_1 ?_
  refine ev_iload_n (pc := 4) (i := 2) rfl rfl dX12_copyRule_4 ?_
  refine ev_aload_n (pc := 5) (i := 0) rfl rfl rfl dX12_copyRule_5 ?_
  obtain ⟨b6, e7, h8⟩ := qP_el h5; clear h5
  refine xv_getP (pc := 6) fn_907 (isb_el g1) e7 gw_1147 dX12_copyRule_6 ?_
  refine ev_iload_n (pc := 9) (i := 1) rfl rfl dX12_copyRule_9 ?_
  obtain ⟨g9, h10⟩ := qk_el h8; clear h8
  obtain ⟨g11, h12⟩ := qk_el h10; clear h10
  obtain ⟨x13, e14, h15⟩ := qv_el h12; clear h12
  refine yv_iald (pc := 10) (isb_el g9) (inb_el g11) e14 dX12_copyRule_10 ?_
  obtain ⟨g16, h17⟩ := qk_el h15; clear h15
  obtain ⟨g18, h19⟩ := qk_el h17; clear h17
  obtain ⟨S20, e21, h22⟩ := qv_el h19; clear h19
  refine yv_iast (pc := 11) (isb_el g16) (inb_el g18) e21 dX12_copyRule_11 ?_
  refine ev_aload_n (pc := 12) (i := 0) rfl rfl rfl dX12_copyRule_12 ?_
  obtain ⟨b23, e24, h25⟩ := qP_el h22; clear h22
  refine xv_getP (pc := 13) fn_908 (is_wI (isb_el g1) e21) e24 gw_1148 dX12_copyRule_13 ?_
  refine ev_iload_n (pc := 16) (i := 2) rfl rfl dX12_copyRule_16 ?_
  refine ev_aload_n (pc := 17) (i := 0) rfl rfl rfl dX12_copyRule_17 ?_
  obtain ⟨b26, e27, h28⟩ := qP_el h25; clear h25
  refine xv_getP (pc := 18) fn_908 (is_wI (isb_el g1) e21) e27 gw_1148 dX12_copyRule_18 ?_
  refine ev_iload_n (pc := 21) (i := 1) rfl rfl dX12_copyRule_21 ?_
  obtain ⟨g29, h30⟩ := qk_el h28; clear h28
  obtain ⟨g31, h32⟩ := qk_el h30; clear h30
  obtain ⟨x33, e34, h35⟩ := qv_el h32; clear h32
  refine yv_iald (pc := 22) (isb_el g29) (inb_el g31) e34 dX12_copyRule_22 ?_
  obtain ⟨g36, h37⟩ := qk_el h35; clear h35
  obtain ⟨g38, h39⟩ := qk_el h37; clear h37
  obtain ⟨S40, e41, h42⟩ := qv_el h39; clear h39
  refine yv_iast (pc := 23) (isb_el g36) (inb_el g38) e41 dX12_copyRule_23 ?_
  refine ev_iconst (pc := 24) (v := 0) (by decide) dX12_copyRule_24 ?_
  refine ev_istore_n (pc := 25) (L' := [some (.ref a), some (.int p0), some (.int p1), some (.int 0)]) (i := 3) rfl (by decide) rfl rfl dX12_copyRule_25 ?_
  exact ev_weak (qL_s (qL_s (qL_s (qL_s qL_nil)))) (e_X12_copyRule_26 F _ _ _ _ _ _ h42)
theorem dX12_copyList_0 : decode cX12_copyList 0 = .ok (.aload_n 0, 1) := by decide +kernel
theorem dX12_copyList_1 : decode cX12_copyList 1 = .ok (.getfield 43, 3) := by decide +kernel
theorem dX12_copyList_4 : decode cX12_copyList 4 = .ok (.iload_n 2, 1) := by decide +kernel
theorem dX12_copyList_5 : decode cX12_copyList 5 = .ok (.aload_n 0, 1) := by decide +kernel
theorem dX12_copyList_6 : decode cX12_copyList 6 = .ok (.getfield 43, 3) := by decide +kernel
theorem dX12_copyList_9 : decode cX12_copyList 9 = .ok (.iload_n 1, 1) := by decide +kernel
theorem dX12_copyList_10 : decode cX12_copyList 10 = .ok (.iaload, 1) := by decide +kernel
theorem dX12_copyList_11 : decode cX12_copyList 11 = .ok (.iastore, 1) := by decide +kernel
theorem dX12_copyList_12 : decode cX12_copyList 12 = .ok (.aload_n 0, 1) := by decide +kernel
theorem dX12_copyList_13 : decode cX12_copyList 13 = .ok (.getfield 46, 3) := by decide +kernel
theorem dX12_copyList_16 : decode cX12_copyList 16 = .ok (.iload_n 2, 1) := by decide +kernel
theorem dX12_copyList_17 : decode cX12_copyList 17 = .ok (.aload_n 0, 1) := by decide +kernel
theorem dX12_copyList_18 : decode cX12_copyList 18 = .ok (.getfield 46, 3) := by decide +kernel
theorem dX12_copyList_21 : decode cX12_copyList 21 = .ok (.iload_n 1, 1) := by decide +kernel
theorem dX12_copyList_22 : decode cX12_copyList 22 = .ok (.iaload, 1) := by decide +kernel
theorem dX12_copyList_23 : decode cX12_copyList 23 = .ok (.iastore, 1) := by decide +kernel
theorem dX12_copyList_24 : decode cX12_copyList 24 = .ok (.iconst 0, 1) := by decide +kernel
theorem dX12_copyList_25 : decode cX12_copyList 25 = .ok (.istore_n 3, 1) := by decide +kernel
theorem dX12_copyList_26 : decode cX12_copyList 26 = .ok (.iload_n 3, 1) := by decide +kernel
theorem dX12_copyList_27 : decode cX12_copyList 27 = .ok (.aload_n 0, 1) := by decide +kernel
theorem dX12_copyList_28 : decode cX12_copyList 28 = .ok (.getfield 46, 3) := by decide +kernel
theorem dX12_copyList_31 : decode cX12_copyList 31 = .ok (.iload_n 1, 1) := by decide +kernel
theorem dX12_copyList_32 : decode cX12_copyList 32 = .ok (.iaload, 1) := by decide +kernel
theorem dX12_copyList_33 : decode cX12_copyList 33 = .ok (.if_icmp .ge 25, 3) := by decide +kernel
theorem dX12_copyList_36 : decode cX12_copyList 36 = .ok (.aload_n 0, 1) := by decide +kernel
theorem dX12_copyList_37 : decode cX12_copyList 37 = .ok (.bipush 16, 2) := by decide +kernel
theorem dX12_copyList_39 : decode cX12_copyList 39 = .ok (.iload_n 1, 1) := by decide +kernel
theorem dX12_copyList_40 : decode cX12_copyList 40 = .ok (.imul, 1) := by decide +kernel
theorem dX12_copyList_41 : decode cX12_copyList 41 = .ok (.iload_n 3, 1) := by decide +kernel
theorem dX12_copyList_42 : decode cX12_copyList 42 = .ok (.iadd, 1) := by decide +kernel
theorem dX12_copyList_43 : decode cX12_copyList 43 = .ok (.bipush 16, 2) := by decide +kernel
theorem dX12_copyList_45 : decode cX12_copyList 45 = .ok (.iload_n 2, 1) := by decide +kernel
theorem dX12_copyList_46 : decode cX12_copyList 46 = .ok (.imul, 1) := by decide +kernel
theorem dX12_copyList_47 : decode cX12_copyList 47 = .ok (.iload_n 3, 1) := by decide +kernel
theorem dX12_copyList_48 : decode cX12_copyList 48 = .ok (.iadd, 1) := by decide +kernel
theorem dX12_copyList_49 : decode cX12_copyList 49 = .ok (.invokevirtual 49, 3) := by decide +kernel
theorem dX12_copyList_52 : decode cX12_copyList 52 = .ok (.iinc 3 1, 3) := by decide +kernel
theorem dX12_copyList_55 : decode cX12_copyList 55 = .ok (.goto (-29), 3) := by decide +kernel
theorem dX12_copyList_58 : decode cX12_copyList 58 = .ok (.return_, 1) := by decide +kernel
theorem e_X12_copyList_26 {X : gk_X} {F : Nat} : ∀ (n : Nat) (l0 : Nat) (l1 : Int32) (l2 : Int32) (l3 : Int32) (S : gk_S) (r : (Unit × gk_S)), f_X12_copyList_26 F n l0 l1 l2 l3 S = some r → EvW X m_X12_copyList 2 0 0 26 [some (.ref l0), some (.int l1), some (.int l2), some (.int l3)] [] S (qRU r) := by
  intro n
  induction n with
  | zero => intro l0 l1 l2 l3 S r h0; rw [f_X12_copyList_26] at h0; cases h0
  | succ n ih =>
    intro l0 l1 l2 l3 S r h0; rw [f_X12_copyList_26] at h0
    refine ev_iload_n (pc := 26) (i := 3) rfl rfl dX12_copyList_26 ?_
    refine ev_aload_n (pc := 27) (i := 0) rfl rfl rfl dX12_copyList_27 ?_
    obtain ⟨g43, h44⟩ := qk_el h0; clear h0
    obtain ⟨b45, e46, h47⟩ := qP_el h44; clear h44
    refine xv_getP (pc := 28) fn_906 (isb_el g43) e46 gw_1146 dX12_copyList_28 ?_
    refine ev_iload_n (pc := 31) (i := 1) rfl rfl dX12_copyList_31 ?_
    obtain ⟨g48, h49⟩ := qk_el h47; clear h47
    obtain ⟨g50, h51⟩ := qk_el h49; clear h49
    obtain ⟨x52, e53, h54⟩ := qv_el h51; clear h51
    refine yv_iald (pc := 32) (isb_el g48) (inb_el g50) e53 dX12_copyList_32 ?_
    refine ev_ic_ge (pc := 33) (tgt := 58) (by decide) dX12_copyList_33 (fun c55 => ?_) (fun c55 => ?_)
    · replace h54 := qi_t h54 c55
      exact ev_return (pc := 58) rfl (qRU_eq h54) dX12_copyList_58
    · replace h54 := qi_f h54 c55
      refine ev_aload_n (pc := 36) (i := 0) rfl rfl rfl dX12_copyList_36 ?_
      refine ev_bipush (pc := 37) (v := 16) (by decide) dX12_copyList_37 ?_
      refine ev_iload_n (pc := 39) (i := 1) rfl rfl dX12_copyList_39 ?_
      refine ev_imul (pc := 40)  dX12_copyList_40 ?_
      refine ev_iload_n (pc := 41) (i := 3) rfl rfl dX12_copyList_41 ?_
      refine ev_iadd (pc := 42)  dX12_copyList_42 ?_
      refine ev_bipush (pc := 43) (v := 16) (by decide) dX12_copyList_43 ?_
      refine ev_iload_n (pc := 45) (i := 2) rfl rfl dX12_copyList_45 ?_
      refine ev_imul (pc := 46)  dX12_copyList_46 ?_
      refine ev_iload_n (pc := 47) (i := 3) rfl rfl dX12_copyList_47 ?_
      refine ev_iadd (pc := 48)  dX12_copyList_48 ?_
      obtain ⟨x57, S58, e59, h60⟩ := qc_el h54; clear h54
      refine xv_callV (pc := 49) (st := []) (as := [.int ((16 * l1) + l3), .int ((16 * l2) + l3)]) (v := none) (S' := S58) ok_X12_copyRule (e_X12_copyRule e59) (isb_el g43) (by decide) rfl (Nat.le_of_ble_eq_true rfl) rfl gw_1371 dX12_copyList_49 ?_
      refine ev_iinc (pc := 52) (L' := [some (.ref l0), some (.int l1), some (.int l2), some (.int (l3 + 1))]) (i := 3) (v := (l3 + 1)) rfl rfl (by decide) rfl rfl dX12_copyList_52 ?_
      refine ev_goto (pc := 55) (tgt := 26) (by decide) dX12_copyList_55 ?_
      exact (ev_weak (qL_s (qL_s (qL_s (qL_s qL_nil)))) (ih _ _ _ _ _ _ h60))
theorem e_X12_copyList {X : gk_X} {F : Nat} {S : gk_S} {a : Nat} {p0 : Int32} {p1 : Int32} {r : (Unit × gk_S)} (h0 : f_X12_copyList F S a p0 p1 = some r) : EvM X m_X12_copyList 2 0 0 [.ref a, .int p0, .int p1] S (qRU r) := by
  unfold f_X12_copyList at h0
  refine ev_method (by decide +kernel) rfl rfl (Nat.le_of_ble_eq_true rfl) ?_
  show EvW X m_X12_copyList 2 0 0 0 [some (.ref a), some (.int p0), some (.int p1), none] [] S _
  refine ev_aload_n (pc := 0) (i := 0) rfl rfl rfl dX12_copyList_0 ?_
  obtain ⟨g1, h2⟩ := qk_el h0; clear h0
  obtain ⟨b3, e4, h5⟩ := qP_el h2; clear h2
  refine xv_getP (pc := 1) fn_905 (isb_el g1) e4 gw_1145 dX12_copyList_1 ?_
  refine ev_iload_n (pc := 4) (i := 2) rfl rfl dX12_copyList_4 ?_
  refine ev_aload_n (pc := 5) (i := 0) rfl rfl rfl dX12_copyList_5 ?_
  obtain ⟨b6, e7, h8⟩ := qP_el h5; clear h5
  refine xv_getP (pc := 6) fn_905 (isb_el g1) e7 gw_1145 dX12_copyList_6 ?_
  refine ev_iload_n (pc := 9) (i := 1) rfl rfl dX12_copyList_9 ?_
  obtain ⟨g9, h10⟩ := qk_el h8; clear h8
  obtain ⟨g11, h12⟩ := qk_el h10; clear h10
  obtain ⟨x13, e14, h15⟩ := qv_el h12; clear h12
  refine yv_iald (pc := 10) (isb_el g9) (inb_el g11) e14 dX12_copyList_10 ?_
  obtain ⟨g16, h17⟩ := qk_el h15; clear h15
  obtain ⟨g18, h19⟩ := qk_el h17; clear h17
  obtain ⟨S20, e21, h22⟩ := qv_el h19; clear h19
  refine yv_iast (pc := 11) (isb_el g16) (inb_el g18) e21 dX12_copyList_11 ?_
  refine ev_aload_n (pc := 12) (i := 0) rfl rfl rfl dX12_copyList_12 ?_
  obtain ⟨b23, e24, h25⟩ := qP_el h22; clear h22
  refine xv_getP (pc := 13) fn_906 (is_wI (isb_el g1) e21) e24 gw_1146 dX12_copyList_13 ?_
  refine ev_iload_n (pc := 16) (i := 2) rfl rfl dX12_copyList_16 ?_
  refine ev_aload_n (pc := 17) (i := 0) rfl rfl rfl dX12_copyList_17 ?_
  obtain ⟨b26, e27, h28⟩ := qP_el h25; clear h25
  refine xv_getP (pc := 18) fn_906 (is_wI (isb_el g1) e21) e27 gw_1146 dX12_copyList_18 ?_
  refine ev_iload_n (pc := 21) (i := 1) rfl rfl dX12_copyList_21 ?_
  obtain ⟨g29, h30⟩ := qk_el h28; clear h28
  obtain ⟨g31, h32⟩ := qk_el h30; clear h30
  obtain ⟨x33, e34, h35⟩ := qv_el h32; clear h32
  refine yv_iald (pc := 22) (isb_el g29) (inb_el g31) e34 dX12_copyList_22 ?_
  obtain ⟨g36, h37⟩ := qk_el h35; clear h35
  obtain ⟨g38, h39⟩ := qk_el h37; clear h37
  obtain ⟨S40, e41, h42⟩ := qv_el h39; clear h39
  refine yv_iast (pc := 23) (isb_el g36) (inb_el g38) e41 dX12_copyList_23 ?_
  refine ev_iconst (pc := 24) (v := 0) (by decide) dX12_copyList_24 ?_
  refine ev_istore_n (pc := 25) (L' := [some (.ref a), some (.int p0), some (.int p1), some (.int 0)]) (i := 3) rfl (by decide) rfl rfl dX12_copyList_25 ?_
  exact ev_weak (qL_s (qL_s (qL_s (qL_s qL_nil)))) (e_X12_copyList_26 F _ _ _ _ _ _ h42)
theorem dX12_forgetTold_0 : decode cX12_forgetTold 0 = .ok (.iconst 0, 1) := by decide +kernel
theorem dX12_forgetTold_1 : decode cX12_forgetTold 1 = .ok (.istore_n 1, 1) := by decide +kernel
theorem dX12_forgetTold_2 : decode cX12_forgetTold 2 = .ok (.iload_n 1, 1) := by decide +kernel
theorem dX12_forgetTold_3 : decode cX12_forgetTold 3 = .ok (.bipush 17, 2) := by decide +kernel
theorem dX12_forgetTold_5 : decode cX12_forgetTold 5 = .ok (.if_icmp .ge 16, 3) := by decide +kernel
theorem dX12_forgetTold_8 : decode cX12_forgetTold 8 = .ok (.aload_n 0, 1) := by decide +kernel
theorem dX12_forgetTold_9 : decode cX12_forgetTold 9 = .ok (.getfield 53, 3) := by decide +kernel
theorem dX12_forgetTold_12 : decode cX12_forgetTold 12 = .ok (.iload_n 1, 1) := by decide +kernel
theorem dX12_forgetTold_13 : decode cX12_forgetTold 13 = .ok (.iconst 0, 1) := by decide +kernel
theorem dX12_forgetTold_14 : decode cX12_forgetTold 14 = .ok (.iastore, 1) := by decide +kernel
theorem dX12_forgetTold_15 : decode cX12_forgetTold 15 = .ok (.iinc 1 1, 3) := by decide +kernel
theorem dX12_forgetTold_18 : decode cX12_forgetTold 18 = .ok (.goto (-16), 3) := by decide +kernel
theorem dX12_forgetTold_21 : decode cX12_forgetTold 21 = .ok (.return_, 1) := by decide +kernel
theorem e_X12_forgetTold_2 {X : gk_X} {F : Nat} : ∀ (n : Nat) (l0 : Nat) (l1 : Int32) (S : gk_S) (r : (Unit × gk_S)), f_X12_forgetTold_2 F n l0 l1 S = some r → EvW X m_X12_forgetTold 1 0 0 2 [some (.ref l0), some (.int l1)] [] S (qRU r) := by
  intro n
  induction n with
  | zero => intro l0 l1 S r h0; rw [f_X12_forgetTold_2] at h0; cases h0
  | succ n ih =>
    intro l0 l1 S r h0; rw [f_X12_forgetTold_2] at h0
    refine ev_iload_n (pc := 2) (i := 1) rfl rfl dX12_forgetTold_2 ?_
    refine ev_bipush (pc := 3) (v := 17) (by decide) dX12_forgetTold_3 ?_
    refine ev_ic_ge (pc := 5) (tgt := 21) (by decide) dX12_forgetTold_5 (fun c1 => ?_) (fun c1 => ?_)
    · replace h0 := qi_t h0 c1
      exact ev_return (pc := 21) rfl (qRU_eq h0) dX12_forgetTold_21
    · replace h0 := qi_f h0 c1
      refine ev_aload_n (pc := 8) (i := 0) rfl rfl rfl dX12_forgetTold_8 ?_
      obtain ⟨g3, h4⟩ := qk_el h0; clear h0
      obtain ⟨b5, e6, h7⟩ := qP_el h4; clear h4
      refine xv_getP (pc := 9) fn_911 (isb_el g3) e6 gw_1151 dX12_forgetTold_9 ?_
      refine ev_iload_n (pc := 12) (i := 1) rfl rfl dX12_forgetTold_12 ?_
      refine ev_iconst (pc := 13) (v := 0) (by decide) dX12_forgetTold_13 ?_
      obtain ⟨g8, h9⟩ := qk_el h7; clear h7
      obtain ⟨g10, h11⟩ := qk_el h9; clear h9
      obtain ⟨S12, e13, h14⟩ := qv_el h11; clear h11
      refine yv_iast (pc := 14) (isb_el g8) (inb_el g10) e13 dX12_forgetTold_14 ?_
      refine ev_iinc (pc := 15) (L' := [some (.ref l0), some (.int (l1 + 1))]) (i := 1) (v := (l1 + 1)) rfl rfl (by decide) rfl rfl dX12_forgetTold_15 ?_
      refine ev_goto (pc := 18) (tgt := 2) (by decide) dX12_forgetTold_18 ?_
      exact (ev_weak (qL_s (qL_s qL_nil)) (ih _ _ _ _ h14))
theorem e_X12_forgetTold {X : gk_X} {F : Nat} {S : gk_S} {a : Nat} {r : (Unit × gk_S)} (h0 : f_X12_forgetTold F S a = some r) : EvM X m_X12_forgetTold 1 0 0 [.ref a] S (qRU r) := by
  unfold f_X12_forgetTold at h0
  refine ev_method (by decide +kernel) rfl rfl (Nat.le_of_ble_eq_true rfl) ?_
  show EvW X m_X12_forgetTold 1 0 0 0 [some (.ref a), none] [] S _
  refine ev_iconst (pc := 0) (v := 0) (by decide) dX12_forgetTold_0 ?_
  refine ev_istore_n (pc := 1) (L' := [some (.ref a), some (.int 0)]) (i := 1) rfl (by decide) rfl rfl dX12_forgetTold_1 ?_
  exact ev_weak (qL_s (qL_s qL_nil)) (e_X12_forgetTold_2 F _ _ _ _ h0)
theorem dX12_load_0 : decode cX12_load 0 = .ok (.aload_n 0, 1) := by decide +kernel
theorem dX12_load_1 : decode cX12_load 1 = .ok (.iload_n 1, 1) := by decide +kernel
theorem dX12_load_2 : decode cX12_load 2 = .ok (.ifCond .lt 8, 3) := by decide +kernel
theorem dX12_load_5 : decode cX12_load 5 = .ok (.iload_n 1, 1) := by decide +kernel
theorem dX12_load_6 : decode cX12_load 6 = .ok (.iconst 3, 1) := by decide +kernel
theorem dX12_load_7 : decode cX12_load 7 = .ok (.if_icmp .le 7, 3) := by decide +kernel
theorem dX12_load_10 : decode cX12_load 10 = .ok (.iconst 1, 1) := by decide +kernel
theorem dX12_load_11 : decode cX12_load 11 = .ok (.goto 4, 3) := by decide +kernel
theorem dX12_load_14 : decode cX12_load 14 = .ok (.iconst 0, 1) := by decide +kernel
theorem dX12_load_15 : decode cX12_load 15 = .ok (.iconst 1, 1) := by decide +kernel
theorem dX12_load_16 : decode cX12_load 16 = .ok (.invokevirtual 176, 3) := by decide +kernel
theorem dX12_load_19 : decode cX12_load 19 = .ok (.ifCond .eq 5, 3) := by decide +kernel
theorem dX12_load_22 : decode cX12_load 22 = .ok (.iconst 0, 1) := by decide +kernel
theorem dX12_load_23 : decode cX12_load 23 = .ok (.ireturn, 1) := by decide +kernel
theorem dX12_load_24 : decode cX12_load 24 = .ok (.aload_n 0, 1) := by decide +kernel
theorem dX12_load_25 : decode cX12_load 25 = .ok (.aload_n 0, 1) := by decide +kernel
theorem dX12_load_26 : decode cX12_load 26 = .ok (.getfield 7, 3) := by decide +kernel
theorem dX12_load_29 : decode cX12_load 29 = .ok (.putfield 18, 3) := by decide +kernel
theorem dX12_load_32 : decode cX12_load 32 = .ok (.aload_n 0, 1) := by decide +kernel
theorem dX12_load_33 : decode cX12_load 33 = .ok (.iconst 0, 1) := by decide +kernel
theorem dX12_load_34 : decode cX12_load 34 = .ok (.putfield 7, 3) := by decide +kernel
theorem dX12_load_37 : decode cX12_load 37 = .ok (.aload_n 0, 1) := by decide +kernel
theorem dX12_load_38 : decode cX12_load 38 = .ok (.iconst 0, 1) := by decide +kernel
theorem dX12_load_39 : decode cX12_load 39 = .ok (.putfield 110, 3) := by decide +kernel
theorem dX12_load_42 : decode cX12_load 42 = .ok (.aload_n 0, 1) := by decide +kernel
theorem dX12_load_43 : decode cX12_load 43 = .ok (.iconst 0, 1) := by decide +kernel
theorem dX12_load_44 : decode cX12_load 44 = .ok (.putfield 154, 3) := by decide +kernel
theorem dX12_load_47 : decode cX12_load 47 = .ok (.aload_n 0, 1) := by decide +kernel
theorem dX12_load_48 : decode cX12_load 48 = .ok (.invokevirtual 173, 3) := by decide +kernel
theorem dX12_load_51 : decode cX12_load 51 = .ok (.aload_n 0, 1) := by decide +kernel
theorem dX12_load_52 : decode cX12_load 52 = .ok (.invokevirtual 180, 3) := by decide +kernel
theorem dX12_load_55 : decode cX12_load 55 = .ok (.ifCond .ne 10, 3) := by decide +kernel
theorem dX12_load_58 : decode cX12_load 58 = .ok (.iconst (-1), 1) := by decide +kernel
theorem dX12_load_59 : decode cX12_load 59 = .ok (.aload_n 0, 1) := by decide +kernel
theorem dX12_load_60 : decode cX12_load 60 = .ok (.getfield 157, 3) := by decide +kernel
theorem dX12_load_63 : decode cX12_load 63 = .ok (.isub, 1) := by decide +kernel
theorem dX12_load_64 : decode cX12_load 64 = .ok (.ireturn, 1) := by decide +kernel
theorem dX12_load_65 : decode cX12_load 65 = .ok (.aload_n 0, 1) := by decide +kernel
theorem dX12_load_66 : decode cX12_load 66 = .ok (.iconst 4, 1) := by decide +kernel
theorem dX12_load_67 : decode cX12_load 67 = .ok (.iload_n 1, 1) := by decide +kernel
theorem dX12_load_68 : decode cX12_load 68 = .ok (.invokevirtual 183, 3) := by decide +kernel
theorem dX12_load_71 : decode cX12_load 71 = .ok (.iload_n 1, 1) := by decide +kernel
theorem dX12_load_72 : decode cX12_load 72 = .ok (.ifCond .ne 7, 3) := by decide +kernel
theorem dX12_load_75 : decode cX12_load 75 = .ok (.aload_n 0, 1) := by decide +kernel
theorem dX12_load_76 : decode cX12_load 76 = .ok (.invokevirtual 186, 3) := by decide +kernel
theorem dX12_load_79 : decode cX12_load 79 = .ok (.aload_n 0, 1) := by decide +kernel
theorem dX12_load_80 : decode cX12_load 80 = .ok (.getfield 46, 3) := by decide +kernel
theorem dX12_load_83 : decode cX12_load 83 = .ok (.iload_n 1, 1) := by decide +kernel
theorem dX12_load_84 : decode cX12_load 84 = .ok (.iaload, 1) := by decide +kernel
theorem dX12_load_85 : decode cX12_load 85 = .ok (.ireturn, 1) := by decide +kernel
theorem e_X12_load_15 {X : gk_X} {F : Nat} {l0 : Nat} {l1 : Int32} {s0 : Int32} {s1 : Nat} {S : gk_S} {r : (Int32 × gk_S)} (h0 : f_X12_load_15 F l0 l1 s0 s1 S = some r) : EvW X m_X12_load 11 0 0 15 [some (.ref l0), some (.int l1)] [.int s0, .ref s1] S (qRI r) := by
  unfold f_X12_load_15 at h0
  refine ev_iconst (pc := 15) (v := 1) (by decide) dX12_load_15 ?_
  obtain ⟨g3, h4⟩ := qk_el h0; clear h0
  obtain ⟨x5, S6, e7, h8⟩ := qc_el h4; clear h4
  refine xv_callV (pc := 16) (st := []) (as := [.int s0, .int 1]) (v := (some (.int x5))) (S' := S6) ok_X12_throwsIf (e_X12_throwsIf e7) (isb_el g3) (by decide) rfl (Nat.le_of_ble_eq_true rfl) rfl gw_1272 dX12_load_16 ?_
  refine ev_if_eq (pc := 19) (tgt := 24) (by decide) dX12_load_19 (fun c9 => ?_) (fun c9 => ?_)
  · replace h8 := qi_t h8 c9
    refine ev_aload_n (pc := 24) (i := 0) rfl rfl rfl dX12_load_24 ?_
    refine ev_aload_n (pc := 25) (i := 0) rfl rfl rfl dX12_load_25 ?_
    obtain ⟨g11, h12⟩ := qk_el h8; clear h8
    obtain ⟨x13, e14, h15⟩ := qv_el h12; clear h12
    refine xv_getIv (pc := 26) fn_902 (isb_el g11) e14 gw_1142 dX12_load_26 ?_
    obtain ⟨S16, e17, h18⟩ := qv_el h15; clear h15
    refine yv_putI (pc := 29) fn_903 ⟨rfl, rfl⟩ (isb_el g11) e17 gw_1143 dX12_load_29 ?_
    refine ev_aload_n (pc := 32) (i := 0) rfl rfl rfl dX12_load_32 ?_
    refine ev_iconst (pc := 33) (v := 0) (by decide) dX12_load_33 ?_
    obtain ⟨S19, e20, h21⟩ := qv_el h18; clear h18
    refine yv_putI (pc := 34) fn_902 ⟨rfl, rfl⟩ (is_sI (isb_el g11) e17) e20 gw_1142 dX12_load_34 ?_
    refine ev_aload_n (pc := 37) (i := 0) rfl rfl rfl dX12_load_37 ?_
    refine ev_iconst (pc := 38) (v := 0) (by decide) dX12_load_38 ?_
    obtain ⟨S22, e23, h24⟩ := qv_el h21; clear h21
    refine yv_putI (pc := 39) fn_904 ⟨rfl, rfl⟩ (is_sI (is_sI (isb_el g11) e17) e20) e23 gw_1144 dX12_load_39 ?_
    refine ev_aload_n (pc := 42) (i := 0) rfl rfl rfl dX12_load_42 ?_
    refine ev_iconst (pc := 43) (v := 0) (by decide) dX12_load_43 ?_
    obtain ⟨S25, e26, h27⟩ := qv_el h24; clear h24
    refine yv_putI (pc := 44) fn_918 ⟨rfl, rfl⟩ (is_sI (is_sI (is_sI (isb_el g11) e17) e20) e23) e26 gw_1158 dX12_load_44 ?_
    refine ev_aload_n (pc := 47) (i := 0) rfl rfl rfl dX12_load_47 ?_
    obtain ⟨x28, S29, e30, h31⟩ := qc_el h27; clear h27
    refine xv_callV (pc := 48) (st := []) (as := []) (v := none) (S' := S29) ok_X12_next (e_X12_next e30) (is_sI (is_sI (is_sI (is_sI (isb_el g11) e17) e20) e23) e26) (by decide) rfl (Nat.le_of_ble_eq_true rfl) rfl gw_1276 dX12_load_48 ?_
    refine ev_aload_n (pc := 51) (i := 0) rfl rfl rfl dX12_load_51 ?_
    obtain ⟨g32, h33⟩ := qk_el h31; clear h31
    obtain ⟨x34, S35, e36, h37⟩ := qc_el h33; clear h33
    refine xv_callV (pc := 52) (st := []) (as := []) (v := (some (.int x34))) (S' := S35) ok_X12_text (e_X12_text e36) (isb_el g32) (by decide) rfl (Nat.le_of_ble_eq_true rfl) rfl gw_1308 dX12_load_52 ?_
    refine ev_if_ne (pc := 55) (tgt := 65) (by decide) dX12_load_55 (fun c38 => ?_) (fun c38 => ?_)
    · replace h37 := qi_f h37 c38
      refine ev_aload_n (pc := 65) (i := 0) rfl rfl rfl dX12_load_65 ?_
      refine ev_iconst (pc := 66) (v := 4) (by decide) dX12_load_66 ?_
      refine ev_iload_n (pc := 67) (i := 1) rfl rfl dX12_load_67 ?_
      obtain ⟨g40, h41⟩ := qk_el h37; clear h37
      obtain ⟨x42, S43, e44, h45⟩ := qc_el h41; clear h41
      refine xv_callV (pc := 68) (st := []) (as := [.int 4, .int l1]) (v := none) (S' := S43) ok_X12_copyList (e_X12_copyList e44) (isb_el g40) (by decide) rfl (Nat.le_of_ble_eq_true rfl) rfl gw_1367 dX12_load_68 ?_
      refine ev_iload_n (pc := 71) (i := 1) rfl rfl dX12_load_71 ?_
      refine ev_if_ne (pc := 72) (tgt := 79) (by decide) dX12_load_72 (fun c46 => ?_) (fun c46 => ?_)
      · replace h45 := qi_f h45 c46
        refine ev_aload_n (pc := 79) (i := 0) rfl rfl rfl dX12_load_79 ?_
        obtain ⟨g48, h49⟩ := qk_el h45; clear h45
        obtain ⟨b50, e51, h52⟩ := qP_el h49; clear h49
        refine xv_getP (pc := 80) fn_906 (isb_el g48) e51 gw_1146 dX12_load_80 ?_
        refine ev_iload_n (pc := 83) (i := 1) rfl rfl dX12_load_83 ?_
        obtain ⟨g53, h54⟩ := qk_el h52; clear h52
        obtain ⟨g55, h56⟩ := qk_el h54; clear h54
        obtain ⟨x57, e58, h59⟩ := qv_el h56; clear h56
        refine yv_iald (pc := 84) (isb_el g53) (inb_el g55) e58 dX12_load_84 ?_
        exact ev_ireturn (pc := 85) rfl (nar_int _) (qRI_eq h59) dX12_load_85
      · replace h45 := qi_t h45 c46
        refine ev_aload_n (pc := 75) (i := 0) rfl rfl rfl dX12_load_75 ?_
        obtain ⟨g60, h61⟩ := qk_el h45; clear h45
        obtain ⟨x62, S63, e64, h65⟩ := qc_el h61; clear h61
        refine xv_callV (pc := 76) (st := []) (as := []) (v := none) (S' := S63) ok_X12_forgetTold (e_X12_forgetTold e64) (isb_el g60) (by decide) rfl (Nat.le_of_ble_eq_true rfl) rfl gw_1375 dX12_load_76 ?_
        refine ev_aload_n (pc := 79) (i := 0) rfl rfl rfl dX12_load_79 ?_
        obtain ⟨g66, h67⟩ := qk_el h65; clear h65
        obtain ⟨b68, e69, h70⟩ := qP_el h67; clear h67
        refine xv_getP (pc := 80) fn_906 (isb_el g66) e69 gw_1146 dX12_load_80 ?_
        refine ev_iload_n (pc := 83) (i := 1) rfl rfl dX12_load_83 ?_
        obtain ⟨g71, h72⟩ := qk_el h70; clear h70
        obtain ⟨g73, h74⟩ := qk_el h72; clear h72
        obtain ⟨x75, e76, h77⟩ := qv_el h74; clear h74
        refine yv_iald (pc := 84) (isb_el g71) (inb_el g73) e76 dX12_load_84 ?_
        exact ev_ireturn (pc := 85) rfl (nar_int _) (qRI_eq h77) dX12_load_85
    · replace h37 := qi_t h37 c38
      refine ev_iconst (pc := 58) (v := -1) (by decide) dX12_load_58 ?_
      refine ev_aload_n (pc := 59) (i := 0) rfl rfl rfl dX12_load_59 ?_
      obtain ⟨g78, h79⟩ := qk_el h37; clear h37
      obtain ⟨x80, e81, h82⟩ := qv_el h79; clear h79
      refine xv_getIv (pc := 60) fn_919 (isb_el g78) e81 gw_1159 dX12_load_60 ?_
      refine ev_isub (pc := 63)  dX12_load_63 ?_
      exact ev_ireturn (pc := 64) rfl (nar_int _) (qRI_eq h82) dX12_load_64
  · replace h8 := qi_f h8 c9
    refine ev_iconst (pc := 22) (v := 0) (by decide) dX12_load_22 ?_
    exact ev_ireturn (pc := 23) rfl (nar_int _) (qRI_eq h8) dX12_load_23
theorem e_X12_load {X : gk_X} {F : Nat} {S : gk_S} {a : Nat} {p0 : Int32} {r : (Int32 × gk_S)} (h0 : f_X12_load F S a p0 = some r) : EvM X m_X12_load 11 0 0 [.ref a, .int p0] S (qRI r) := by
  unfold f_X12_load at h0
  refine ev_method (by decide +kernel) rfl rfl (Nat.le_of_ble_eq_true rfl) ?_
  show EvW X m_X12_load 11 0 0 0 [some (.ref a), some (.int p0)] [] S _
  refine ev_aload_n (pc := 0) (i := 0) rfl rfl rfl dX12_load_0 ?_
  refine ev_iload_n (pc := 1) (i := 1) rfl rfl dX12_load_1 ?_
  refine ev_if_lt (pc := 2) (tgt := 10) (by decide) dX12_load_2 (fun c1 => ?_) (fun c1 => ?_)
  · replace h0 := qi_t h0 c1
    refine ev_iconst (pc := 10) (v := 1) (by decide) dX12_load_10 ?_
    refine ev_goto (pc := 11) (tgt := 15) (by decide) dX12_load_11 ?_
    exact ev_weak (qL_s (qL_s qL_nil)) (e_X12_load_15 h0)
  · replace h0 := qi_f h0 c1
    refine ev_iload_n (pc := 5) (i := 1) rfl rfl dX12_load_5 ?_
    refine ev_iconst (pc := 6) (v := 3) (by decide) dX12_load_6 ?_
    refine ev_ic_le (pc := 7) (tgt := 14) (by decide) dX12_load_7 (fun c83 => ?_) (fun c83 => ?_)
    · replace h0 := qi_t h0 c83
      refine ev_iconst (pc := 14) (v := 0) (by decide) dX12_load_14 ?_
      exact ev_weak (qL_s (qL_s qL_nil)) (e_X12_load_15 h0)
    · replace h0 := qi_f h0 c83
      refine ev_iconst (pc := 10) (v := 1) (by decide) dX12_load_10 ?_
      refine ev_goto (pc := 11) (tgt := 15) (by decide) dX12_load_11 ?_
      exact ev_weak (qL_s (qL_s qL_nil)) (e_X12_load_15 h0)
theorem dX12_thrown_0 : decode cX12_thrown 0 = .ok (.aload_n 0, 1) := by decide +kernel
theorem dX12_thrown_1 : decode cX12_thrown 1 = .ok (.getfield 1, 3) := by decide +kernel
theorem dX12_thrown_4 : decode cX12_thrown 4 = .ok (.ireturn, 1) := by decide +kernel
theorem e_X12_thrown {X : gk_X} {F : Nat} {S : gk_S} {a : Nat} {r : (Int32 × gk_S)} (h0 : f_X12_thrown F S a = some r) : EvM X m_X12_thrown 1 0 0 [.ref a] S (qRI r) := by
  unfold f_X12_thrown at h0
  refine ev_method (by decide +kernel) rfl rfl (Nat.le_of_ble_eq_true rfl) ?_
  show EvW X m_X12_thrown 1 0 0 0 [some (.ref a)] [] S _
  refine ev_aload_n (pc := 0) (i := 0) rfl rfl rfl dX12_thrown_0 ?_
  obtain ⟨g1, h2⟩ := qk_el h0; clear h0
  obtain ⟨x3, e4, h5⟩ := qv_el h2; clear h2
  refine xv_getIv (pc := 1) fn_900 (isb_el g1) e4 gw_1140 dX12_thrown_1 ?_
  exact ev_ireturn (pc := 4) rfl (nar_int _) (qRI_eq h5) dX12_thrown_4
theorem dX11_fault_0 : decode cX11_fault 0 = .ok (.aload_n 0, 1) := by decide +kernel
theorem dX11_fault_1 : decode cX11_fault 1 = .ok (.getfield 76, 3) := by decide +kernel
theorem dX11_fault_4 : decode cX11_fault 4 = .ok (.ireturn, 1) := by decide +kernel
theorem e_X11_fault {X : gk_X} {F : Nat} {S : gk_S} {a : Nat} {r : (Int32 × gk_S)} (h0 : f_X11_fault F S a = some r) : EvM X m_X11_fault 1 0 0 [.ref a] S (qRI r) := by
  unfold f_X11_fault at h0
  refine ev_method (by decide +kernel) rfl rfl (Nat.le_of_ble_eq_true rfl) ?_
  show EvW X m_X11_fault 1 0 0 0 [some (.ref a)] [] S _
  refine ev_aload_n (pc := 0) (i := 0) rfl rfl rfl dX11_fault_0 ?_
  obtain ⟨g1, h2⟩ := qk_el h0; clear h0
  obtain ⟨x3, e4, h5⟩ := qv_el h2; clear h2
  refine xv_getIv (pc := 1) fn_812 (isb_el g1) e4 gw_294 dX11_fault_1 ?_
  exact ev_ireturn (pc := 4) rfl (nar_int _) (qRI_eq h5) dX11_fault_4
theorem dX12_fault_0 : decode cX12_fault 0 = .ok (.aload_n 0, 1) := by decide +kernel
theorem dX12_fault_1 : decode cX12_fault 1 = .ok (.iconst 0, 1) := by decide +kernel
theorem dX12_fault_2 : decode cX12_fault 2 = .ok (.putfield 1, 3) := by decide +kernel
theorem dX12_fault_5 : decode cX12_fault 5 = .ok (.aload_n 0, 1) := by decide +kernel
theorem dX12_fault_6 : decode cX12_fault 6 = .ok (.getfield 154, 3) := by decide +kernel
theorem dX12_fault_9 : decode cX12_fault 9 = .ok (.ireturn, 1) := by decide +kernel
theorem e_X12_fault {X : gk_X} {F : Nat} {S : gk_S} {a : Nat} {r : (Int32 × gk_S)} (h0 : f_X12_fault F S a = some r) : EvM X m_X12_fault 1 0 0 [.ref a] S (qRI r) := by
  unfold f_X12_fault at h0
  refine ev_method (by decide +kernel) rfl rfl (Nat.le_of_ble_eq_true rfl) ?_
  show EvW X m_X12_fault 1 0 0 0 [some (.ref a)] [] S _
  refine ev_aload_n (pc := 0) (i := 0) rfl rfl rfl dX12_fault_0 ?_
  refine ev_iconst (pc := 1) (v := 0) (by decide) dX12_fault_1 ?_
  obtain ⟨g1, h2⟩ := qk_el h0; clear h0
  obtain ⟨S3, e4, h5⟩ := qv_el h2; clear h2
  refine yv_putI (pc := 2) fn_900 ⟨rfl, rfl⟩ (isb_el g1) e4 gw_1140 dX12_fault_2 ?_
  refine ev_aload_n (pc := 5) (i := 0) rfl rfl rfl dX12_fault_5 ?_
  obtain ⟨x6, e7, h8⟩ := qv_el h5; clear h5
  refine xv_getIv (pc := 6) fn_918 (is_sI (isb_el g1) e4) e7 gw_1158 dX12_fault_6 ?_
  exact ev_ireturn (pc := 9) rfl (nar_int _) (qRI_eq h8) dX12_fault_9
theorem dX11_rules_0 : decode cX11_rules 0 = .ok (.iload_n 1, 1) := by decide +kernel
theorem dX11_rules_1 : decode cX11_rules 1 = .ok (.invokestatic 89, 3) := by decide +kernel
theorem dX11_rules_4 : decode cX11_rules 4 = .ok (.aload_n 0, 1) := by decide +kernel
theorem dX11_rules_5 : decode cX11_rules 5 = .ok (.getfield 23, 3) := by decide +kernel
theorem dX11_rules_8 : decode cX11_rules 8 = .ok (.iload_n 1, 1) := by decide +kernel
theorem dX11_rules_9 : decode cX11_rules 9 = .ok (.aaload, 1) := by decide +kernel
theorem dX11_rules_10 : decode cX11_rules 10 = .ok (.getfield 103, 3) := by decide +kernel
theorem dX11_rules_13 : decode cX11_rules 13 = .ok (.ireturn, 1) := by decide +kernel
theorem e_X11_rules {X : gk_X} {F : Nat} {k j : Nat} {S : gk_S} {a : Nat} {p0 : Int32} {r : ((Int32 ⊕ String) × gk_S)} (hb : qb r k j) (h0 : f_X11_rules F S a p0 = some r) : EvM X m_X11_rules 7 k j [.ref a, .int p0] S (qXI r) := by
  unfold f_X11_rules at h0
  refine ev_method (by decide +kernel) rfl rfl (Nat.le_of_ble_eq_true rfl) ?_
  show EvW X m_X11_rules 7 k j 0 [some (.ref a), some (.int p0)] [] S _
  refine ev_iload_n (pc := 0) (i := 1) rfl rfl dX11_rules_0 ?_
  rcases qx_el h0 with ⟨E5, T6, e3, z1⟩ | ⟨x1, S2, e3, h4⟩
  · subst z1
    exact xv_thrS (pc := 1) (st := []) (as := [.int p0]) ok_X11_checkList (e_X11_checkList (fun _ _ => qb_inr hb) e3) rfl rfl (by decide) (Nat.le_refl _) (Nat.le_refl _) rfl (Nat.le_of_ble_eq_true rfl) rfl gw_386 dX11_rules_1
  clear h0
  refine xv_callS (pc := 1) (st := []) (as := [.int p0]) (v := none) (S' := S2) ok_X11_checkList (e_X11_checkList (k := 0) (j := 0) qb_inl e3) (by decide) rfl (Nat.le_of_ble_eq_true rfl) rfl gw_386 dX11_rules_1 ?_
  refine ev_aload_n (pc := 4) (i := 0) rfl rfl rfl dX11_rules_4 ?_
  obtain ⟨g7, h8⟩ := qk_el h4; clear h4
  obtain ⟨b9, e10, h11⟩ := qP_el h8; clear h8
  refine xv_getP (pc := 5) fn_802 (isb_el g7) e10 gw_284 dX11_rules_5 ?_
  refine ev_iload_n (pc := 8) (i := 1) rfl rfl dX11_rules_8 ?_
  obtain ⟨g12, h13⟩ := qk_el h11; clear h11
  obtain ⟨g14, h15⟩ := qk_el h13; clear h13
  obtain ⟨b16, e17, h18⟩ := qP_el h15; clear h15
  refine yv_aald (pc := 9) (isb_el g12) (by decide) (inb_el g14) e17 dX11_rules_9 ?_
  obtain ⟨g19, h20⟩ := qk_el h18; clear h18
  obtain ⟨x21, e22, h23⟩ := qv_el h20; clear h20
  refine xv_getIv (pc := 10) fn_401 (isb_el g19) e22 gw_95 dX11_rules_10 ?_
  cases h23
  exact ev_ireturn (pc := 13) rfl (nar_int _) rfl dX11_rules_13
theorem dL_rules_0 : decode cL_rules 0 = .ok (.aload_n 2, 1) := by decide +kernel
theorem dL_rules_1 : decode cL_rules 1 = .ok (.iconst 0, 1) := by decide +kernel
theorem dL_rules_2 : decode cL_rules 2 = .ok (.aload_n 0, 1) := by decide +kernel
theorem dL_rules_3 : decode cL_rules 3 = .ok (.iload_n 1, 1) := by decide +kernel
theorem dL_rules_4 : decode cL_rules 4 = .ok (.invokevirtual 15, 3) := by decide +kernel
theorem dL_rules_7 : decode cL_rules 7 = .ok (.i2l, 1) := by decide +kernel
theorem dL_rules_8 : decode cL_rules 8 = .ok (.lastore, 1) := by decide +kernel
theorem dL_rules_9 : decode cL_rules 9 = .ok (.goto 6, 3) := by decide +kernel
theorem dL_rules_12 : decode cL_rules 12 = .ok (.astore_n 3, 1) := by decide +kernel
theorem dL_rules_13 : decode cL_rules 13 = .ok (.iconst 1, 1) := by decide +kernel
theorem dL_rules_14 : decode cL_rules 14 = .ok (.ireturn, 1) := by decide +kernel
theorem dL_rules_15 : decode cL_rules 15 = .ok (.iconst 0, 1) := by decide +kernel
theorem dL_rules_16 : decode cL_rules 16 = .ok (.ireturn, 1) := by decide +kernel
theorem e_L_rules {X : gk_X} {F : Nat} {k j : Nat} {S : gk_S} {p0 : Nat} {p1 : Int32} {p2 : Nat} {r : (Int32 × gk_S)} (hb : r.1 = 0 ∨ (1 ≤ k ∧ 6 ≤ j)) (h0 : f_L_rules F S p0 p1 p2 = some r) : EvM X m_L_rules 8 k j [.ref p0, .int p1, .ref p2] S (qRI r) := by
  unfold f_L_rules at h0
  refine ev_methodH (by decide +kernel) (by decide) rfl (Nat.le_of_ble_eq_true rfl) ?_
  show EvW X m_L_rules 8 k j 0 [some (.ref p0), some (.int p1), some (.ref p2), none] [] S _
  refine ev_aload_n (pc := 0) (i := 2) rfl rfl rfl dL_rules_0 ?_
  refine ev_iconst (pc := 1) (v := 0) (by decide) dL_rules_1 ?_
  refine ev_aload_n (pc := 2) (i := 0) rfl rfl rfl dL_rules_2 ?_
  refine ev_iload_n (pc := 3) (i := 1) rfl rfl dL_rules_3 ?_
  obtain ⟨g1, h2⟩ := qk_el h0; clear h0
  rcases qh_el h2 with ⟨E7, T8, e5, h6⟩ | ⟨x3, S4, e5, h6⟩
  · by_cases c9 : E7 = gx_I
    · replace h6 := qi_t h6 c9; subst c9
      have hb9 : 1 ≤ k ∧ 6 ≤ j := by cases h6; exact hb.resolve_left (show ¬ (1 : Int32) = 0 by decide)
      refine yv_catV (pc := 4) (st := [.int 0, .ref p2]) (as := [.int p1]) (i9 := 3) (len9 := 1) (pre := []) (suf := []) (x := (0, 9, 12, 13)) (name := "java/lang/IndexOutOfBoundsException") ok_X11_rules (e_X11_rules (k := k) (j := j) (fun _ _ => hb9) e5) (isb_el g1) rfl (by intro z hz; cases hz) (by decide) (by decide) (by decide) gw_381 (by decide +kernel) (.inr ⟨3, rfl, rfl, rfl⟩) (by decide) rfl (gl9 rfl) (by decide) rfl (Nat.le_of_ble_eq_true rfl) rfl gw_665 dL_rules_4 dL_rules_12 ?_
      refine ev_iconst (pc := 13) (v := 1) (by decide) dL_rules_13 ?_
      exact ev_ireturn (pc := 14) rfl rfl (by cases h6; rfl) dL_rules_14
    replace h6 := qi_f h6 c9
    cases h6
  clear h2
  refine xv_callV (pc := 4) (st := [.int 0, .ref p2]) (as := [.int p1]) (v := (some (.int x3))) (S' := S4) ok_X11_rules (e_X11_rules (k := 0) (j := 0) qb_inl e5) (isb_el g1) (by decide) rfl (Nat.le_of_ble_eq_true rfl) rfl gw_665 dL_rules_4 ?_
  refine ev_i2l (pc := 7)  dL_rules_7 ?_
  obtain ⟨g10, h11⟩ := qk_el h6; clear h6
  obtain ⟨g12, h13⟩ := qk_el h11; clear h11
  obtain ⟨S14, e15, h16⟩ := qv_el h13; clear h13
  refine yv_last (pc := 8) (isb_el g10) (inb_el g12) e15 dL_rules_8 ?_
  refine ev_goto (pc := 9) (tgt := 15) (by decide) dL_rules_9 ?_
  refine ev_iconst (pc := 15) (v := 0) (by decide) dL_rules_15 ?_
  exact ev_ireturn (pc := 16) rfl (nar_int _) (qRI_eq h16) dL_rules_16
theorem dX12_noList_0 : decode cX12_noList 0 = .ok (.aload_n 0, 1) := by decide +kernel
theorem dX12_noList_1 : decode cX12_noList 1 = .ok (.iload_n 1, 1) := by decide +kernel
theorem dX12_noList_2 : decode cX12_noList 2 = .ok (.ifCond .lt 8, 3) := by decide +kernel
theorem dX12_noList_5 : decode cX12_noList 5 = .ok (.iload_n 1, 1) := by decide +kernel
theorem dX12_noList_6 : decode cX12_noList 6 = .ok (.iconst 3, 1) := by decide +kernel
theorem dX12_noList_7 : decode cX12_noList 7 = .ok (.if_icmp .le 7, 3) := by decide +kernel
theorem dX12_noList_10 : decode cX12_noList 10 = .ok (.iconst 1, 1) := by decide +kernel
theorem dX12_noList_11 : decode cX12_noList 11 = .ok (.goto 4, 3) := by decide +kernel
theorem dX12_noList_14 : decode cX12_noList 14 = .ok (.iconst 0, 1) := by decide +kernel
theorem dX12_noList_15 : decode cX12_noList 15 = .ok (.iconst 1, 1) := by decide +kernel
theorem dX12_noList_16 : decode cX12_noList 16 = .ok (.invokevirtual 176, 3) := by decide +kernel
theorem dX12_noList_19 : decode cX12_noList 19 = .ok (.ireturn, 1) := by decide +kernel
theorem e_X12_noList_15 {X : gk_X} {F : Nat} {s0 : Int32} {s1 : Nat} {S : gk_S} {r : (Int32 × gk_S)} (h0 : f_X12_noList_15 F s0 s1 S = some r) : EvW X m_X12_noList 2 0 0 15 [none, none] [.int s0, .ref s1] S (qRI r) := by
  unfold f_X12_noList_15 at h0
  refine ev_iconst (pc := 15) (v := 1) (by decide) dX12_noList_15 ?_
  obtain ⟨g3, h4⟩ := qk_el h0; clear h0
  obtain ⟨x5, S6, e7, h8⟩ := qc_el h4; clear h4
  refine xv_callV (pc := 16) (st := []) (as := [.int s0, .int 1]) (v := (some (.int x5))) (S' := S6) ok_X12_throwsIf (e_X12_throwsIf e7) (isb_el g3) (by decide) rfl (Nat.le_of_ble_eq_true rfl) rfl gw_1272 dX12_noList_16 ?_
  obtain ⟨g9, h10⟩ := qk_el h8; clear h8
  exact ev_ireturn (pc := 19) rfl (zb_nar g9) (qRI_eq h10) dX12_noList_19
theorem e_X12_noList {X : gk_X} {F : Nat} {S : gk_S} {a : Nat} {p0 : Int32} {r : (Int32 × gk_S)} (h0 : f_X12_noList F S a p0 = some r) : EvM X m_X12_noList 2 0 0 [.ref a, .int p0] S (qRI r) := by
  unfold f_X12_noList at h0
  refine ev_method (by decide +kernel) rfl rfl (Nat.le_of_ble_eq_true rfl) ?_
  show EvW X m_X12_noList 2 0 0 0 [some (.ref a), some (.int p0)] [] S _
  refine ev_aload_n (pc := 0) (i := 0) rfl rfl rfl dX12_noList_0 ?_
  refine ev_iload_n (pc := 1) (i := 1) rfl rfl dX12_noList_1 ?_
  refine ev_if_lt (pc := 2) (tgt := 10) (by decide) dX12_noList_2 (fun c1 => ?_) (fun c1 => ?_)
  · replace h0 := qi_t h0 c1
    refine ev_iconst (pc := 10) (v := 1) (by decide) dX12_noList_10 ?_
    refine ev_goto (pc := 11) (tgt := 15) (by decide) dX12_noList_11 ?_
    exact ev_weak (qL_n (qL_n qL_nil)) (e_X12_noList_15 h0)
  · replace h0 := qi_f h0 c1
    refine ev_iload_n (pc := 5) (i := 1) rfl rfl dX12_noList_5 ?_
    refine ev_iconst (pc := 6) (v := 3) (by decide) dX12_noList_6 ?_
    refine ev_ic_le (pc := 7) (tgt := 14) (by decide) dX12_noList_7 (fun c11 => ?_) (fun c11 => ?_)
    · replace h0 := qi_t h0 c11
      refine ev_iconst (pc := 14) (v := 0) (by decide) dX12_noList_14 ?_
      exact ev_weak (qL_n (qL_n qL_nil)) (e_X12_noList_15 h0)
    · replace h0 := qi_f h0 c11
      refine ev_iconst (pc := 10) (v := 1) (by decide) dX12_noList_10 ?_
      refine ev_goto (pc := 11) (tgt := 15) (by decide) dX12_noList_11 ?_
      exact ev_weak (qL_n (qL_n qL_nil)) (e_X12_noList_15 h0)
theorem dX12_rules_0 : decode cX12_rules 0 = .ok (.aload_n 0, 1) := by decide +kernel
theorem dX12_rules_1 : decode cX12_rules 1 = .ok (.iload_n 1, 1) := by decide +kernel
theorem dX12_rules_2 : decode cX12_rules 2 = .ok (.invokevirtual 222, 3) := by decide +kernel
theorem dX12_rules_5 : decode cX12_rules 5 = .ok (.ifCond .eq 7, 3) := by decide +kernel
theorem dX12_rules_8 : decode cX12_rules 8 = .ok (.iconst 0, 1) := by decide +kernel
theorem dX12_rules_9 : decode cX12_rules 9 = .ok (.goto 9, 3) := by decide +kernel
theorem dX12_rules_12 : decode cX12_rules 12 = .ok (.aload_n 0, 1) := by decide +kernel
theorem dX12_rules_13 : decode cX12_rules 13 = .ok (.getfield 46, 3) := by decide +kernel
theorem dX12_rules_16 : decode cX12_rules 16 = .ok (.iload_n 1, 1) := by decide +kernel
theorem dX12_rules_17 : decode cX12_rules 17 = .ok (.iaload, 1) := by decide +kernel
theorem dX12_rules_18 : decode cX12_rules 18 = .ok (.ireturn, 1) := by decide +kernel
theorem e_X12_rules {X : gk_X} {F : Nat} {S : gk_S} {a : Nat} {p0 : Int32} {r : (Int32 × gk_S)} (h0 : f_X12_rules F S a p0 = some r) : EvM X m_X12_rules 3 0 0 [.ref a, .int p0] S (qRI r) := by
  unfold f_X12_rules at h0
  refine ev_method (by decide +kernel) rfl rfl (Nat.le_of_ble_eq_true rfl) ?_
  show EvW X m_X12_rules 3 0 0 0 [some (.ref a), some (.int p0)] [] S _
  refine ev_aload_n (pc := 0) (i := 0) rfl rfl rfl dX12_rules_0 ?_
  refine ev_iload_n (pc := 1) (i := 1) rfl rfl dX12_rules_1 ?_
  obtain ⟨g1, h2⟩ := qk_el h0; clear h0
  obtain ⟨x3, S4, e5, h6⟩ := qc_el h2; clear h2
  refine xv_callV (pc := 2) (st := []) (as := [.int p0]) (v := (some (.int x3))) (S' := S4) ok_X12_noList (e_X12_noList e5) (isb_el g1) (by decide) rfl (Nat.le_of_ble_eq_true rfl) rfl gw_1387 dX12_rules_2 ?_
  refine ev_if_eq (pc := 5) (tgt := 12) (by decide) dX12_rules_5 (fun c7 => ?_) (fun c7 => ?_)
  · replace h6 := qi_t h6 c7
    refine ev_aload_n (pc := 12) (i := 0) rfl rfl rfl dX12_rules_12 ?_
    obtain ⟨g9, h10⟩ := qk_el h6; clear h6
    obtain ⟨b11, e12, h13⟩ := qP_el h10; clear h10
    refine xv_getP (pc := 13) fn_906 (isb_el g9) e12 gw_1146 dX12_rules_13 ?_
    refine ev_iload_n (pc := 16) (i := 1) rfl rfl dX12_rules_16 ?_
    obtain ⟨g14, h15⟩ := qk_el h13; clear h13
    obtain ⟨g16, h17⟩ := qk_el h15; clear h15
    obtain ⟨x18, e19, h20⟩ := qv_el h17; clear h17
    refine yv_iald (pc := 17) (isb_el g14) (inb_el g16) e19 dX12_rules_17 ?_
    exact ev_ireturn (pc := 18) rfl (nar_int _) (qRI_eq h20) dX12_rules_18
  · replace h6 := qi_f h6 c7
    refine ev_iconst (pc := 8) (v := 0) (by decide) dX12_rules_8 ?_
    refine ev_goto (pc := 9) (tgt := 18) (by decide) dX12_rules_9 ?_
    exact ev_ireturn (pc := 18) rfl (nar_int _) (qRI_eq h6) dX12_rules_18
theorem dX11_policyPart_0 : decode cX11_policyPart 0 = .ok (.iload_n 1, 1) := by decide +kernel
theorem dX11_policyPart_1 : decode cX11_policyPart 1 = .ok (.ifCond .eq 20, 3) := by decide +kernel
theorem dX11_policyPart_4 : decode cX11_policyPart 4 = .ok (.iload_n 1, 1) := by decide +kernel
theorem dX11_policyPart_5 : decode cX11_policyPart 5 = .ok (.bipush 14, 2) := by decide +kernel
theorem dX11_policyPart_7 : decode cX11_policyPart 7 = .ok (.if_icmp .eq 14, 3) := by decide +kernel
theorem dX11_policyPart_10 : decode cX11_policyPart 10 = .ok (.new 112, 3) := by decide +kernel
theorem dX11_policyPart_13 : decode cX11_policyPart 13 = .ok (.dup, 1) := by decide +kernel
theorem dX11_policyPart_14 : decode cX11_policyPart 14 = .ok (.ldc_w 260, 3) := by decide +kernel
theorem dX11_policyPart_17 : decode cX11_policyPart 17 = .ok (.invokespecial 116, 3) := by decide +kernel
theorem dX11_policyPart_20 : decode cX11_policyPart 20 = .ok (.athrow, 1) := by decide +kernel
theorem dX11_policyPart_21 : decode cX11_policyPart 21 = .ok (.iload_n 1, 1) := by decide +kernel
theorem dX11_policyPart_22 : decode cX11_policyPart 22 = .ok (.ifCond .ne 10, 3) := by decide +kernel
theorem dX11_policyPart_25 : decode cX11_policyPart 25 = .ok (.aload_n 0, 1) := by decide +kernel
theorem dX11_policyPart_26 : decode cX11_policyPart 26 = .ok (.getfield 262, 3) := by decide +kernel
theorem dX11_policyPart_29 : decode cX11_policyPart 29 = .ok (.goto 7, 3) := by decide +kernel
theorem dX11_policyPart_32 : decode cX11_policyPart 32 = .ok (.aload_n 0, 1) := by decide +kernel
theorem dX11_policyPart_33 : decode cX11_policyPart 33 = .ok (.getfield 265, 3) := by decide +kernel
theorem dX11_policyPart_36 : decode cX11_policyPart 36 = .ok (.ireturn, 1) := by decide +kernel
theorem e_X11_policyPart_21 {X : gk_X} {F : Nat} {k j : Nat} {l0 : Nat} {l1 : Int32} {S : gk_S} {r : ((Int32 ⊕ String) × gk_S)} (hb : qb r k j) (h0 : f_X11_policyPart_21 F l0 l1 S = some r) : EvW X m_X11_policyPart 6 k j 21 [some (.ref l0), some (.int l1)] [] S (qXI r) := by
  unfold f_X11_policyPart_21 at h0
  refine ev_iload_n (pc := 21) (i := 1) rfl rfl dX11_policyPart_21 ?_
  refine ev_if_ne (pc := 22) (tgt := 32) (by decide) dX11_policyPart_22 (fun c3 => ?_) (fun c3 => ?_)
  · replace h0 := qi_f h0 c3
    refine ev_aload_n (pc := 32) (i := 0) rfl rfl rfl dX11_policyPart_32 ?_
    obtain ⟨g5, h6⟩ := qk_el h0; clear h0
    obtain ⟨x7, e8, h9⟩ := qv_el h6; clear h6
    refine xv_getIv (pc := 33) fn_403 (isb_el g5) e8 gw_102 dX11_policyPart_33 ?_
    cases h9
    exact ev_ireturn (pc := 36) rfl (nar_int _) rfl dX11_policyPart_36
  · replace h0 := qi_t h0 c3
    refine ev_aload_n (pc := 25) (i := 0) rfl rfl rfl dX11_policyPart_25 ?_
    obtain ⟨g10, h11⟩ := qk_el h0; clear h0
    obtain ⟨x12, e13, h14⟩ := qv_el h11; clear h11
    refine xv_getIv (pc := 26) fn_402 (isb_el g10) e13 gw_100 dX11_policyPart_26 ?_
    refine ev_goto (pc := 29) (tgt := 36) (by decide) dX11_policyPart_29 ?_
    cases h14
    exact ev_ireturn (pc := 36) rfl (nar_int _) rfl dX11_policyPart_36
theorem e_X11_policyPart {X : gk_X} {F : Nat} {k j : Nat} {S : gk_S} {p0 : Nat} {p1 : Int32} {r : ((Int32 ⊕ String) × gk_S)} (hb : qb r k j) (h0 : f_X11_policyPart F S p0 p1 = some r) : EvM X m_X11_policyPart 6 k j [.ref p0, .int p1] S (qXI r) := by
  unfold f_X11_policyPart at h0
  refine ev_method (by decide +kernel) rfl rfl (Nat.le_of_ble_eq_true rfl) ?_
  show EvW X m_X11_policyPart 6 k j 0 [some (.ref p0), some (.int p1)] [] S _
  refine ev_iload_n (pc := 0) (i := 1) rfl rfl dX11_policyPart_0 ?_
  refine ev_if_eq (pc := 1) (tgt := 21) (by decide) dX11_policyPart_1 (fun c1 => ?_) (fun c1 => ?_)
  · replace h0 := qi_t h0 c1
    exact ev_weak (qL_s (qL_s qL_nil)) (e_X11_policyPart_21 hb h0)
  · replace h0 := qi_f h0 c1
    refine ev_iload_n (pc := 4) (i := 1) rfl rfl dX11_policyPart_4 ?_
    refine ev_bipush (pc := 5) (v := 14) (by decide) dX11_policyPart_5 ?_
    refine ev_ic_eq (pc := 7) (tgt := 21) (by decide) dX11_policyPart_7 (fun c15 => ?_) (fun c15 => ?_)
    · replace h0 := qi_t h0 c15
      exact ev_weak (qL_s (qL_s qL_nil)) (e_X11_policyPart_21 hb h0)
    · replace h0 := qi_f h0 c15
      cases h0
      exact ev_throwNW (pc := 10) (i := 19) (by decide) rfl rfl rfl rfl gw_680 gw_19 rfl (by decide) (by decide) (qb_inr hb).1 (qb_inr hb).2 rfl dX11_policyPart_10 dX11_policyPart_13 dX11_policyPart_14 dX11_policyPart_17 dX11_policyPart_20
theorem dX11_checkRule_0 : decode cX11_checkRule 0 = .ok (.iload_n 1, 1) := by decide +kernel
theorem dX11_checkRule_1 : decode cX11_checkRule 1 = .ok (.ifCond .lt 11, 3) := by decide +kernel
theorem dX11_checkRule_4 : decode cX11_checkRule 4 = .ok (.iload_n 1, 1) := by decide +kernel
theorem dX11_checkRule_5 : decode cX11_checkRule 5 = .ok (.aload_n 0, 1) := by decide +kernel
theorem dX11_checkRule_6 : decode cX11_checkRule 6 = .ok (.getfield 103, 3) := by decide +kernel
theorem dX11_checkRule_9 : decode cX11_checkRule 9 = .ok (.if_icmp .lt 13, 3) := by decide +kernel
theorem dX11_checkRule_12 : decode cX11_checkRule 12 = .ok (.new 112, 3) := by decide +kernel
theorem dX11_checkRule_15 : decode cX11_checkRule 15 = .ok (.dup, 1) := by decide +kernel
theorem dX11_checkRule_16 : decode cX11_checkRule 16 = .ok (.ldc 254, 2) := by decide +kernel
theorem dX11_checkRule_18 : decode cX11_checkRule 18 = .ok (.invokespecial 116, 3) := by decide +kernel
theorem dX11_checkRule_21 : decode cX11_checkRule 21 = .ok (.athrow, 1) := by decide +kernel
theorem dX11_checkRule_22 : decode cX11_checkRule 22 = .ok (.return_, 1) := by decide +kernel
theorem e_X11_checkRule_12 {X : gk_X} {F : Nat} {k j : Nat}  {S : gk_S} {r : ((Unit ⊕ String) × gk_S)} (hb : qb r k j) (h0 : f_X11_checkRule_12 F  S = some r) : EvW X m_X11_checkRule 6 k j 12 [none, none] [] S (qXU r) := by
  unfold f_X11_checkRule_12 at h0
  cases h0
  exact ev_throwN (pc := 12) (i := 20) (by decide) rfl rfl rfl rfl gw_680 gw_19 rfl (by decide) (by decide) (qb_inr hb).1 (qb_inr hb).2 rfl dX11_checkRule_12 dX11_checkRule_15 dX11_checkRule_16 dX11_checkRule_18 dX11_checkRule_21
theorem e_X11_checkRule {X : gk_X} {F : Nat} {k j : Nat} {S : gk_S} {p0 : Nat} {p1 : Int32} {r : ((Unit ⊕ String) × gk_S)} (hb : qb r k j) (h0 : f_X11_checkRule F S p0 p1 = some r) : EvM X m_X11_checkRule 6 k j [.ref p0, .int p1] S (qXU r) := by
  unfold f_X11_checkRule at h0
  refine ev_method (by decide +kernel) rfl rfl (Nat.le_of_ble_eq_true rfl) ?_
  show EvW X m_X11_checkRule 6 k j 0 [some (.ref p0), some (.int p1)] [] S _
  refine ev_iload_n (pc := 0) (i := 1) rfl rfl dX11_checkRule_0 ?_
  refine ev_if_lt (pc := 1) (tgt := 12) (by decide) dX11_checkRule_1 (fun c1 => ?_) (fun c1 => ?_)
  · replace h0 := qi_t h0 c1
    exact ev_weak (qL_n (qL_n qL_nil)) (e_X11_checkRule_12 hb h0)
  · replace h0 := qi_f h0 c1
    refine ev_iload_n (pc := 4) (i := 1) rfl rfl dX11_checkRule_4 ?_
    refine ev_aload_n (pc := 5) (i := 0) rfl rfl rfl dX11_checkRule_5 ?_
    obtain ⟨g3, h4⟩ := qk_el h0; clear h0
    obtain ⟨x5, e6, h7⟩ := qv_el h4; clear h4
    refine xv_getIv (pc := 6) fn_401 (isb_el g3) e6 gw_95 dX11_checkRule_6 ?_
    refine ev_ic_lt (pc := 9) (tgt := 22) (by decide) dX11_checkRule_9 (fun c8 => ?_) (fun c8 => ?_)
    · replace h7 := qi_t h7 c8
      cases h7
      exact ev_return (pc := 22) rfl rfl dX11_checkRule_22
    · replace h7 := qi_f h7 c8
      exact ev_weak (qL_n (qL_n qL_nil)) (e_X11_checkRule_12 hb h7)
theorem dX5_part_0 : decode cX5_part 0 = .ok (.iload_n 1, 1) := by decide +kernel
theorem dX5_part_1 : decode cX5_part 1 = .ok (.iconst 2, 1) := by decide +kernel
theorem dX5_part_2 : decode cX5_part 2 = .ok (.if_icmp .lt 38, 3) := by decide +kernel
theorem dX5_part_5 : decode cX5_part 5 = .ok (.iload_n 1, 1) := by decide +kernel
theorem dX5_part_6 : decode cX5_part 6 = .ok (.bipush 14, 2) := by decide +kernel
theorem dX5_part_8 : decode cX5_part 8 = .ok (.if_icmp .ge 32, 3) := by decide +kernel
theorem dX5_part_11 : decode cX5_part 11 = .ok (.iload_n 1, 1) := by decide +kernel
theorem dX5_part_12 : decode cX5_part 12 = .ok (.iconst 2, 1) := by decide +kernel
theorem dX5_part_13 : decode cX5_part 13 = .ok (.isub, 1) := by decide +kernel
theorem dX5_part_14 : decode cX5_part 14 = .ok (.iconst 2, 1) := by decide +kernel
theorem dX5_part_15 : decode cX5_part 15 = .ok (.idiv, 1) := by decide +kernel
theorem dX5_part_16 : decode cX5_part 16 = .ok (.istore_n 2, 1) := by decide +kernel
theorem dX5_part_17 : decode cX5_part 17 = .ok (.iload_n 1, 1) := by decide +kernel
theorem dX5_part_18 : decode cX5_part 18 = .ok (.iconst 2, 1) := by decide +kernel
theorem dX5_part_19 : decode cX5_part 19 = .ok (.irem, 1) := by decide +kernel
theorem dX5_part_20 : decode cX5_part 20 = .ok (.ifCond .ne 12, 3) := by decide +kernel
theorem dX5_part_23 : decode cX5_part 23 = .ok (.aload_n 0, 1) := by decide +kernel
theorem dX5_part_24 : decode cX5_part 24 = .ok (.getfield 9, 3) := by decide +kernel
theorem dX5_part_27 : decode cX5_part 27 = .ok (.iload_n 2, 1) := by decide +kernel
theorem dX5_part_28 : decode cX5_part 28 = .ok (.laload, 1) := by decide +kernel
theorem dX5_part_29 : decode cX5_part 29 = .ok (.goto 9, 3) := by decide +kernel
theorem dX5_part_32 : decode cX5_part 32 = .ok (.aload_n 0, 1) := by decide +kernel
theorem dX5_part_33 : decode cX5_part 33 = .ok (.getfield 15, 3) := by decide +kernel
theorem dX5_part_36 : decode cX5_part 36 = .ok (.iload_n 2, 1) := by decide +kernel
theorem dX5_part_37 : decode cX5_part 37 = .ok (.laload, 1) := by decide +kernel
theorem dX5_part_38 : decode cX5_part 38 = .ok (.l2i, 1) := by decide +kernel
theorem dX5_part_39 : decode cX5_part 39 = .ok (.ireturn, 1) := by decide +kernel
theorem dX5_part_40 : decode cX5_part 40 = .ok (.iload_n 1, 1) := by decide +kernel
theorem dX5_part_41 : decode cX5_part 41 = .ok (.lookupswitch 37 #[(0, 27), (1, 32)], 27) := by decide +kernel
theorem dX5_part_68 : decode cX5_part 68 = .ok (.aload_n 0, 1) := by decide +kernel
theorem dX5_part_69 : decode cX5_part 69 = .ok (.getfield 22, 3) := by decide +kernel
theorem dX5_part_72 : decode cX5_part 72 = .ok (.ireturn, 1) := by decide +kernel
theorem dX5_part_73 : decode cX5_part 73 = .ok (.aload_n 0, 1) := by decide +kernel
theorem dX5_part_74 : decode cX5_part 74 = .ok (.getfield 18, 3) := by decide +kernel
theorem dX5_part_77 : decode cX5_part 77 = .ok (.ireturn, 1) := by decide +kernel
theorem dX5_part_78 : decode cX5_part 78 = .ok (.aload_n 0, 1) := by decide +kernel
theorem dX5_part_79 : decode cX5_part 79 = .ok (.getfield 25, 3) := by decide +kernel
theorem dX5_part_82 : decode cX5_part 82 = .ok (.ireturn, 1) := by decide +kernel
theorem e_X5_part_40 {X : gk_X} {F : Nat} {l0 : Nat} {l1 : Int32} {S : gk_S} {r : (Int32 × gk_S)} (h0 : f_X5_part_40 F l0 l1 S = some r) : EvW X m_X5_part 1 0 0 40 [some (.ref l0), some (.int l1), none] [] S (qRI r) := by
  unfold f_X5_part_40 at h0
  refine ev_iload_n (pc := 40) (i := 1) rfl rfl dX5_part_40 ?_
  by_cases c3 : l1 = 0
  · refine ev_lookup (pc := 41) (off := 27) (tgt := 68) rfl (by rw [c3]; rfl) (by decide) dX5_part_41 ?_
    replace h0 := qi_t h0 c3
    refine ev_aload_n (pc := 68) (i := 0) rfl rfl rfl dX5_part_68 ?_
    obtain ⟨g4, h5⟩ := qk_el h0; clear h0
    obtain ⟨x6, e7, h8⟩ := qv_el h5; clear h5
    refine xv_getIv (pc := 69) fn_303 (isb_el g4) e7 gw_72 dX5_part_69 ?_
    exact ev_ireturn (pc := 72) rfl (nar_int _) (qRI_eq h8) dX5_part_72
  replace h0 := qi_f h0 c3
  by_cases c9 : l1 = 1
  · refine ev_lookup (pc := 41) (off := 32) (tgt := 73) rfl (by rw [c9]; rfl) (by decide) dX5_part_41 ?_
    replace h0 := qi_t h0 c9
    refine ev_aload_n (pc := 73) (i := 0) rfl rfl rfl dX5_part_73 ?_
    obtain ⟨g10, h11⟩ := qk_el h0; clear h0
    obtain ⟨x12, e13, h14⟩ := qv_el h11; clear h11
    refine xv_getIv (pc := 74) fn_302 (isb_el g10) e13 gw_70 dX5_part_74 ?_
    exact ev_ireturn (pc := 77) rfl (nar_int _) (qRI_eq h14) dX5_part_77
  replace h0 := qi_f h0 c9
  refine ev_lookup (pc := 41) (off := 37) (tgt := 78) rfl (lo_ne (ti_ne c3 rfl) (lo_ne (ti_ne c9 rfl) lo_nil)) (by decide) dX5_part_41 ?_
  refine ev_aload_n (pc := 78) (i := 0) rfl rfl rfl dX5_part_78 ?_
  obtain ⟨g15, h16⟩ := qk_el h0; clear h0
  obtain ⟨x17, e18, h19⟩ := qv_el h16; clear h16
  refine xv_getIv (pc := 79) fn_304 (isb_el g15) e18 gw_76 dX5_part_79 ?_
  exact ev_ireturn (pc := 82) rfl (nar_int _) (qRI_eq h19) dX5_part_82
theorem e_X5_part {X : gk_X} {F : Nat} {S : gk_S} {a : Nat} {p0 : Int32} {r : (Int32 × gk_S)} (h0 : f_X5_part F S a p0 = some r) : EvM X m_X5_part 1 0 0 [.ref a, .int p0] S (qRI r) := by
  unfold f_X5_part at h0
  refine ev_method (by decide +kernel) rfl rfl (Nat.le_of_ble_eq_true rfl) ?_
  show EvW X m_X5_part 1 0 0 0 [some (.ref a), some (.int p0), none] [] S _
  refine ev_iload_n (pc := 0) (i := 1) rfl rfl dX5_part_0 ?_
  refine ev_iconst (pc := 1) (v := 2) (by decide) dX5_part_1 ?_
  refine ev_ic_lt (pc := 2) (tgt := 40) (by decide) dX5_part_2 (fun c1 => ?_) (fun c1 => ?_)
  · replace h0 := qi_t h0 c1
    exact ev_weak (qL_s (qL_s (qL_n qL_nil))) (e_X5_part_40 h0)
  · replace h0 := qi_f h0 c1
    refine ev_iload_n (pc := 5) (i := 1) rfl rfl dX5_part_5 ?_
    refine ev_bipush (pc := 6) (v := 14) (by decide) dX5_part_6 ?_
    refine ev_ic_ge (pc := 8) (tgt := 40) (by decide) dX5_part_8 (fun c20 => ?_) (fun c20 => ?_)
    · replace h0 := qi_t h0 c20
      exact ev_weak (qL_s (qL_s (qL_n qL_nil))) (e_X5_part_40 h0)
    · replace h0 := qi_f h0 c20
      refine ev_iload_n (pc := 11) (i := 1) rfl rfl dX5_part_11 ?_
      refine ev_iconst (pc := 12) (v := 2) (by decide) dX5_part_12 ?_
      refine ev_isub (pc := 13)  dX5_part_13 ?_
      refine ev_iconst (pc := 14) (v := 2) (by decide) dX5_part_14 ?_
      refine ev_idiv (pc := 15) (by decide) dX5_part_15 ?_
      refine ev_istore_n (pc := 16) (L' := [some (.ref a), some (.int p0), some (.int ((p0 - 2) / 2))]) (i := 2) rfl (by decide) rfl rfl dX5_part_16 ?_
      refine ev_iload_n (pc := 17) (i := 1) rfl rfl dX5_part_17 ?_
      refine ev_iconst (pc := 18) (v := 2) (by decide) dX5_part_18 ?_
      refine ev_irem (pc := 19) (by decide) dX5_part_19 ?_
      refine ev_if_ne (pc := 20) (tgt := 32) (by decide) dX5_part_20 (fun c22 => ?_) (fun c22 => ?_)
      · replace h0 := qi_f h0 c22
        refine ev_aload_n (pc := 32) (i := 0) rfl rfl rfl dX5_part_32 ?_
        obtain ⟨g24, h25⟩ := qk_el h0; clear h0
        obtain ⟨b26, e27, h28⟩ := qP_el h25; clear h25
        refine xv_getP (pc := 33) fn_301 (isb_el g24) e27 gw_67 dX5_part_33 ?_
        refine ev_iload_n (pc := 36) (i := 2) rfl rfl dX5_part_36 ?_
        obtain ⟨g29, h30⟩ := qk_el h28; clear h28
        obtain ⟨g31, h32⟩ := qk_el h30; clear h30
        obtain ⟨x33, e34, h35⟩ := qv_el h32; clear h32
        refine yv_lald (pc := 37) (isb_el g29) (inb_el g31) e34 dX5_part_37 ?_
        refine ev_l2i (pc := 38)  dX5_part_38 ?_
        exact ev_ireturn (pc := 39) rfl (nar_int _) (qRI_eq h35) dX5_part_39
      · replace h0 := qi_t h0 c22
        refine ev_aload_n (pc := 23) (i := 0) rfl rfl rfl dX5_part_23 ?_
        obtain ⟨g36, h37⟩ := qk_el h0; clear h0
        obtain ⟨b38, e39, h40⟩ := qP_el h37; clear h37
        refine xv_getP (pc := 24) fn_300 (isb_el g36) e39 gw_64 dX5_part_24 ?_
        refine ev_iload_n (pc := 27) (i := 2) rfl rfl dX5_part_27 ?_
        obtain ⟨g41, h42⟩ := qk_el h40; clear h40
        obtain ⟨g43, h44⟩ := qk_el h42; clear h42
        obtain ⟨x45, e46, h47⟩ := qv_el h44; clear h44
        refine yv_lald (pc := 28) (isb_el g41) (inb_el g43) e46 dX5_part_28 ?_
        refine ev_goto (pc := 29) (tgt := 38) (by decide) dX5_part_29 ?_
        refine ev_l2i (pc := 38)  dX5_part_38 ?_
        exact ev_ireturn (pc := 39) rfl (nar_int _) (qRI_eq h47) dX5_part_39
theorem dX11_rule_0 : decode cX11_rule 0 = .ok (.iload_n 1, 1) := by decide +kernel
theorem dX11_rule_1 : decode cX11_rule 1 = .ok (.invokestatic 89, 3) := by decide +kernel
theorem dX11_rule_4 : decode cX11_rule 4 = .ok (.aload_n 0, 1) := by decide +kernel
theorem dX11_rule_5 : decode cX11_rule 5 = .ok (.getfield 23, 3) := by decide +kernel
theorem dX11_rule_8 : decode cX11_rule 8 = .ok (.iload_n 1, 1) := by decide +kernel
theorem dX11_rule_9 : decode cX11_rule 9 = .ok (.aaload, 1) := by decide +kernel
theorem dX11_rule_10 : decode cX11_rule 10 = .ok (.astore 4, 2) := by decide +kernel
theorem dX11_rule_12 : decode cX11_rule 12 = .ok (.iload_n 2, 1) := by decide +kernel
theorem dX11_rule_13 : decode cX11_rule 13 = .ok (.iconst (-1), 1) := by decide +kernel
theorem dX11_rule_14 : decode cX11_rule 14 = .ok (.if_icmp .ne 10, 3) := by decide +kernel
theorem dX11_rule_17 : decode cX11_rule 17 = .ok (.aload 4, 2) := by decide +kernel
theorem dX11_rule_19 : decode cX11_rule 19 = .ok (.iload_n 3, 1) := by decide +kernel
theorem dX11_rule_20 : decode cX11_rule 20 = .ok (.invokestatic 104, 3) := by decide +kernel
theorem dX11_rule_23 : decode cX11_rule 23 = .ok (.ireturn, 1) := by decide +kernel
theorem dX11_rule_24 : decode cX11_rule 24 = .ok (.aload 4, 2) := by decide +kernel
theorem dX11_rule_26 : decode cX11_rule 26 = .ok (.iload_n 2, 1) := by decide +kernel
theorem dX11_rule_27 : decode cX11_rule 27 = .ok (.invokestatic 108, 3) := by decide +kernel
theorem dX11_rule_30 : decode cX11_rule 30 = .ok (.iload_n 3, 1) := by decide +kernel
theorem dX11_rule_31 : decode cX11_rule 31 = .ok (.ifCond .lt 9, 3) := by decide +kernel
theorem dX11_rule_34 : decode cX11_rule 34 = .ok (.iload_n 3, 1) := by decide +kernel
theorem dX11_rule_35 : decode cX11_rule 35 = .ok (.bipush 14, 2) := by decide +kernel
theorem dX11_rule_37 : decode cX11_rule 37 = .ok (.if_icmp .le 13, 3) := by decide +kernel
theorem dX11_rule_40 : decode cX11_rule 40 = .ok (.new 112, 3) := by decide +kernel
theorem dX11_rule_43 : decode cX11_rule 43 = .ok (.dup, 1) := by decide +kernel
theorem dX11_rule_44 : decode cX11_rule 44 = .ok (.ldc 114, 2) := by decide +kernel
theorem dX11_rule_46 : decode cX11_rule 46 = .ok (.invokespecial 116, 3) := by decide +kernel
theorem dX11_rule_49 : decode cX11_rule 49 = .ok (.athrow, 1) := by decide +kernel
theorem dX11_rule_50 : decode cX11_rule 50 = .ok (.aload 4, 2) := by decide +kernel
theorem dX11_rule_52 : decode cX11_rule 52 = .ok (.iload_n 2, 1) := by decide +kernel
theorem dX11_rule_53 : decode cX11_rule 53 = .ok (.invokevirtual 119, 3) := by decide +kernel
theorem dX11_rule_56 : decode cX11_rule 56 = .ok (.iload_n 3, 1) := by decide +kernel
theorem dX11_rule_57 : decode cX11_rule 57 = .ok (.invokevirtual 123, 3) := by decide +kernel
theorem dX11_rule_60 : decode cX11_rule 60 = .ok (.ireturn, 1) := by decide +kernel
theorem e_X11_rule_40 {X : gk_X} {F : Nat} {k j : Nat}  {S : gk_S} {r : ((Int32 ⊕ String) × gk_S)} (hb : qb r k j) (h0 : f_X11_rule_40 F  S = some r) : EvW X m_X11_rule 7 k j 40 [none, none, none, none, none] [] S (qXI r) := by
  unfold f_X11_rule_40 at h0
  cases h0
  exact ev_throwN (pc := 40) (i := 21) (by decide) rfl rfl rfl rfl gw_680 gw_19 rfl (by decide) (by decide) (qb_inr hb).1 (qb_inr hb).2 rfl dX11_rule_40 dX11_rule_43 dX11_rule_44 dX11_rule_46 dX11_rule_49
theorem e_X11_rule {X : gk_X} {F : Nat} {k j : Nat} {S : gk_S} {a : Nat} {p0 : Int32} {p1 : Int32} {p2 : Int32} {r : ((Int32 ⊕ String) × gk_S)} (hb : qb r k j) (h0 : f_X11_rule F S a p0 p1 p2 = some r) : EvM X m_X11_rule 7 k j [.ref a, .int p0, .int p1, .int p2] S (qXI r) := by
  unfold f_X11_rule at h0
  refine ev_method (by decide +kernel) rfl rfl (Nat.le_of_ble_eq_true rfl) ?_
  show EvW X m_X11_rule 7 k j 0 [some (.ref a), some (.int p0), some (.int p1), some (.int p2), none] [] S _
  refine ev_iload_n (pc := 0) (i := 1) rfl rfl dX11_rule_0 ?_
  rcases qx_el h0 with ⟨E5, T6, e3, z1⟩ | ⟨x1, S2, e3, h4⟩
  · subst z1
    exact xv_thrS (pc := 1) (st := []) (as := [.int p0]) ok_X11_checkList (e_X11_checkList (fun _ _ => qb_inr hb) e3) rfl rfl (by decide) (Nat.le_refl _) (Nat.le_refl _) rfl (Nat.le_of_ble_eq_true rfl) rfl gw_386 dX11_rule_1
  clear h0
  refine xv_callS (pc := 1) (st := []) (as := [.int p0]) (v := none) (S' := S2) ok_X11_checkList (e_X11_checkList (k := 0) (j := 0) qb_inl e3) (by decide) rfl (Nat.le_of_ble_eq_true rfl) rfl gw_386 dX11_rule_1 ?_
  refine ev_aload_n (pc := 4) (i := 0) rfl rfl rfl dX11_rule_4 ?_
  obtain ⟨g7, h8⟩ := qk_el h4; clear h4
  obtain ⟨b9, e10, h11⟩ := qP_el h8; clear h8
  refine xv_getP (pc := 5) fn_802 (isb_el g7) e10 gw_284 dX11_rule_5 ?_
  refine ev_iload_n (pc := 8) (i := 1) rfl rfl dX11_rule_8 ?_
  obtain ⟨g12, h13⟩ := qk_el h11; clear h11
  obtain ⟨g14, h15⟩ := qk_el h13; clear h13
  obtain ⟨b16, e17, h18⟩ := qP_el h15; clear h15
  refine yv_aald (pc := 9) (isb_el g12) (by decide) (inb_el g14) e17 dX11_rule_9 ?_
  refine ev_astore (pc := 10) (L' := [some (.ref a), some (.int p0), some (.int p1), some (.int p2), some (.ref b16)]) (i := 4) (by decide) rfl rfl rfl dX11_rule_10 ?_
  refine ev_iload_n (pc := 12) (i := 2) rfl rfl dX11_rule_12 ?_
  refine ev_iconst (pc := 13) (v := -1) (by decide) dX11_rule_13 ?_
  refine ev_ic_ne (pc := 14) (tgt := 24) (by decide) dX11_rule_14 (fun c19 => ?_) (fun c19 => ?_)
  · replace h18 := qi_f h18 c19
    refine ev_aload (pc := 24) (i := 4) rfl rfl dX11_rule_24 ?_
    refine ev_iload_n (pc := 26) (i := 2) rfl rfl dX11_rule_26 ?_
    rcases qx_el h18 with ⟨E25, T26, e23, z1⟩ | ⟨x21, S22, e23, h24⟩
    · subst z1
      exact xv_thrS (pc := 27) (st := []) (as := [.ref b16, .int p1]) ok_X11_checkRule (e_X11_checkRule (fun _ _ => qb_inr hb) e23) rfl rfl (by decide) (Nat.le_refl _) (Nat.le_refl _) rfl (Nat.le_of_ble_eq_true rfl) rfl gw_696 dX11_rule_27
    clear h18
    refine xv_callS (pc := 27) (st := []) (as := [.ref b16, .int p1]) (v := none) (S' := S22) ok_X11_checkRule (e_X11_checkRule (k := 0) (j := 0) qb_inl e23) (by decide) rfl (Nat.le_of_ble_eq_true rfl) rfl gw_696 dX11_rule_27 ?_
    refine ev_iload_n (pc := 30) (i := 3) rfl rfl dX11_rule_30 ?_
    refine ev_if_lt (pc := 31) (tgt := 40) (by decide) dX11_rule_31 (fun c27 => ?_) (fun c27 => ?_)
    · replace h24 := qi_t h24 c27
      exact ev_weak (qL_n (qL_n (qL_n (qL_n (qL_n qL_nil))))) (e_X11_rule_40 hb h24)
    · replace h24 := qi_f h24 c27
      refine ev_iload_n (pc := 34) (i := 3) rfl rfl dX11_rule_34 ?_
      refine ev_bipush (pc := 35) (v := 14) (by decide) dX11_rule_35 ?_
      refine ev_ic_le (pc := 37) (tgt := 50) (by decide) dX11_rule_37 (fun c29 => ?_) (fun c29 => ?_)
      · replace h24 := qi_t h24 c29
        refine ev_aload (pc := 50) (i := 4) rfl rfl dX11_rule_50 ?_
        refine ev_iload_n (pc := 52) (i := 2) rfl rfl dX11_rule_52 ?_
        obtain ⟨g31, h32⟩ := qk_el h24; clear h24
        obtain ⟨x33, S34, e35, h36⟩ := qc_el h32; clear h32
        refine xv_callV (pc := 53) (st := []) (as := [.int p1]) (v := (some (.ref x33))) (S' := S34) ok_X6_at (e_X6_at e35) (isb_el g31) (by decide) rfl (Nat.le_of_ble_eq_true rfl) rfl gw_701 dX11_rule_53 ?_
        refine ev_iload_n (pc := 56) (i := 3) rfl rfl dX11_rule_56 ?_
        obtain ⟨g37, h38⟩ := qk_el h36; clear h36
        obtain ⟨x39, S40, e41, h42⟩ := qc_el h38; clear h38
        refine xv_callV (pc := 57) (st := []) (as := [.int p2]) (v := (some (.int x39))) (S' := S40) ok_X5_part (e_X5_part e41) (isb_el g37) (by decide) rfl (Nat.le_of_ble_eq_true rfl) rfl gw_702 dX11_rule_57 ?_
        cases h42
        exact ev_ireturn (pc := 60) rfl (nar_int _) rfl dX11_rule_60
      · replace h24 := qi_f h24 c29
        exact ev_weak (qL_n (qL_n (qL_n (qL_n (qL_n qL_nil))))) (e_X11_rule_40 hb h24)
  · replace h18 := qi_t h18 c19
    refine ev_aload (pc := 17) (i := 4) rfl rfl dX11_rule_17 ?_
    refine ev_iload_n (pc := 19) (i := 3) rfl rfl dX11_rule_19 ?_
    rcases qx_el h18 with ⟨E47, T48, e45, z1⟩ | ⟨x43, S44, e45, h46⟩
    · subst z1
      exact xv_thrS (pc := 20) (st := []) (as := [.ref b16, .int p2]) ok_X11_policyPart (e_X11_policyPart (fun _ _ => qb_inr hb) e45) rfl rfl (by decide) (Nat.le_refl _) (Nat.le_refl _) rfl (Nat.le_of_ble_eq_true rfl) rfl gw_677 dX11_rule_20
    clear h18
    refine xv_callS (pc := 20) (st := []) (as := [.ref b16, .int p2]) (v := (some (.int x43))) (S' := S44) ok_X11_policyPart (e_X11_policyPart (k := 0) (j := 0) qb_inl e45) (by decide) rfl (Nat.le_of_ble_eq_true rfl) rfl gw_677 dX11_rule_20 ?_
    cases h46
    exact ev_ireturn (pc := 23) rfl (nar_int _) rfl dX11_rule_23
theorem dL_rule_0 : decode cL_rule 0 = .ok (.aload 4, 2) := by decide +kernel
theorem dL_rule_2 : decode cL_rule 2 = .ok (.iconst 0, 1) := by decide +kernel
theorem dL_rule_3 : decode cL_rule 3 = .ok (.aload_n 0, 1) := by decide +kernel
theorem dL_rule_4 : decode cL_rule 4 = .ok (.iload_n 1, 1) := by decide +kernel
theorem dL_rule_5 : decode cL_rule 5 = .ok (.iload_n 2, 1) := by decide +kernel
theorem dL_rule_6 : decode cL_rule 6 = .ok (.iload_n 3, 1) := by decide +kernel
theorem dL_rule_7 : decode cL_rule 7 = .ok (.invokevirtual 18, 3) := by decide +kernel
theorem dL_rule_10 : decode cL_rule 10 = .ok (.i2l, 1) := by decide +kernel
theorem dL_rule_11 : decode cL_rule 11 = .ok (.lastore, 1) := by decide +kernel
theorem dL_rule_12 : decode cL_rule 12 = .ok (.goto 11, 3) := by decide +kernel
theorem dL_rule_15 : decode cL_rule 15 = .ok (.astore 5, 2) := by decide +kernel
theorem dL_rule_17 : decode cL_rule 17 = .ok (.iconst 1, 1) := by decide +kernel
theorem dL_rule_18 : decode cL_rule 18 = .ok (.ireturn, 1) := by decide +kernel
theorem dL_rule_19 : decode cL_rule 19 = .ok (.astore 5, 2) := by decide +kernel
theorem dL_rule_21 : decode cL_rule 21 = .ok (.iconst 2, 1) := by decide +kernel
theorem dL_rule_22 : decode cL_rule 22 = .ok (.ireturn, 1) := by decide +kernel
theorem dL_rule_23 : decode cL_rule 23 = .ok (.iconst 0, 1) := by decide +kernel
theorem dL_rule_24 : decode cL_rule 24 = .ok (.ireturn, 1) := by decide +kernel
theorem e_L_rule {X : gk_X} {F : Nat} {k j : Nat} {S : gk_S} {p0 : Nat} {p1 : Int32} {p2 : Int32} {p3 : Int32} {p4 : Nat} {r : (Int32 × gk_S)} (hb : r.1 = 0 ∨ (1 ≤ k ∧ 6 ≤ j)) (h0 : f_L_rule F S p0 p1 p2 p3 p4 = some r) : EvM X m_L_rule 8 k j [.ref p0, .int p1, .int p2, .int p3, .ref p4] S (qRI r) := by
  unfold f_L_rule at h0
  refine ev_methodH (by decide +kernel) (by decide) rfl (Nat.le_of_ble_eq_true rfl) ?_
  show EvW X m_L_rule 8 k j 0 [some (.ref p0), some (.int p1), some (.int p2), some (.int p3), some (.ref p4), none] [] S _
  refine ev_aload (pc := 0) (i := 4) rfl rfl dL_rule_0 ?_
  refine ev_iconst (pc := 2) (v := 0) (by decide) dL_rule_2 ?_
  refine ev_aload_n (pc := 3) (i := 0) rfl rfl rfl dL_rule_3 ?_
  refine ev_iload_n (pc := 4) (i := 1) rfl rfl dL_rule_4 ?_
  refine ev_iload_n (pc := 5) (i := 2) rfl rfl dL_rule_5 ?_
  refine ev_iload_n (pc := 6) (i := 3) rfl rfl dL_rule_6 ?_
  obtain ⟨g1, h2⟩ := qk_el h0; clear h0
  rcases qh_el h2 with ⟨E7, T8, e5, h6⟩ | ⟨x3, S4, e5, h6⟩
  · by_cases c9 : E7 = gx_I
    · replace h6 := qi_t h6 c9; subst c9
      have hb9 : 1 ≤ k ∧ 6 ≤ j := by cases h6; exact hb.resolve_left (show ¬ (1 : Int32) = 0 by decide)
      refine yv_catV (pc := 7) (st := [.int 0, .ref p4]) (as := [.int p1, .int p2, .int p3]) (i9 := 5) (len9 := 2) (pre := []) (suf := [(0, 12, 19, 22)]) (x := (0, 12, 15, 13)) (name := "java/lang/IndexOutOfBoundsException") ok_X11_rule (e_X11_rule (k := k) (j := j) (fun _ _ => hb9) e5) (isb_el g1) rfl (by intro z hz; cases hz) (by decide) (by decide) (by decide) gw_381 (by decide +kernel) (.inl ⟨rfl, rfl⟩) (by decide) rfl (gl9 rfl) (by decide) rfl (Nat.le_of_ble_eq_true rfl) rfl gw_673 dL_rule_7 dL_rule_15 ?_
      refine ev_iconst (pc := 17) (v := 1) (by decide) dL_rule_17 ?_
      exact ev_ireturn (pc := 18) rfl rfl (by cases h6; rfl) dL_rule_18
    replace h6 := qi_f h6 c9
    by_cases c10 : E7 = gx_E
    · replace h6 := qi_t h6 c10; subst c10
      have hb9 : 1 ≤ k ∧ 6 ≤ j := by cases h6; exact hb.resolve_left (show ¬ (2 : Int32) = 0 by decide)
      refine yv_catV (pc := 7) (st := [.int 0, .ref p4]) (as := [.int p1, .int p2, .int p3]) (i9 := 5) (len9 := 2) (pre := [(0, 12, 15, 13)]) (suf := []) (x := (0, 12, 19, 22)) (name := "java/util/NoSuchElementException") ok_X11_rule (e_X11_rule (k := k) (j := j) (fun _ _ => hb9) e5) (isb_el g1) rfl (by intro z hz; rcases List.mem_singleton.mp hz with rfl; exact ⟨by decide, "java/lang/IndexOutOfBoundsException", gw_381, by decide +kernel⟩) (by decide) (by decide) (by decide) gw_672 (by decide +kernel) (.inl ⟨rfl, rfl⟩) (by decide) rfl (gl9 rfl) (by decide) rfl (Nat.le_of_ble_eq_true rfl) rfl gw_673 dL_rule_7 dL_rule_19 ?_
      refine ev_iconst (pc := 21) (v := 2) (by decide) dL_rule_21 ?_
      exact ev_ireturn (pc := 22) rfl rfl (by cases h6; rfl) dL_rule_22
    replace h6 := qi_f h6 c10
    cases h6
  clear h2
  refine xv_callV (pc := 7) (st := [.int 0, .ref p4]) (as := [.int p1, .int p2, .int p3]) (v := (some (.int x3))) (S' := S4) ok_X11_rule (e_X11_rule (k := 0) (j := 0) qb_inl e5) (isb_el g1) (by decide) rfl (Nat.le_of_ble_eq_true rfl) rfl gw_673 dL_rule_7 ?_
  refine ev_i2l (pc := 10)  dL_rule_10 ?_
  obtain ⟨g11, h12⟩ := qk_el h6; clear h6
  obtain ⟨g13, h14⟩ := qk_el h12; clear h12
  obtain ⟨S15, e16, h17⟩ := qv_el h14; clear h14
  refine yv_last (pc := 11) (isb_el g11) (inb_el g13) e16 dL_rule_11 ?_
  refine ev_goto (pc := 12) (tgt := 23) (by decide) dL_rule_12 ?_
  refine ev_iconst (pc := 23) (v := 0) (by decide) dL_rule_23 ?_
  exact ev_ireturn (pc := 24) rfl (nar_int _) (qRI_eq h17) dL_rule_24
theorem dX12_rule__0 : decode cX12_rule_ 0 = .ok (.aload_n 0, 1) := by decide +kernel
theorem dX12_rule__1 : decode cX12_rule_ 1 = .ok (.iload_n 1, 1) := by decide +kernel
theorem dX12_rule__2 : decode cX12_rule_ 2 = .ok (.invokevirtual 222, 3) := by decide +kernel
theorem dX12_rule__5 : decode cX12_rule_ 5 = .ok (.ifCond .eq 5, 3) := by decide +kernel
theorem dX12_rule__8 : decode cX12_rule_ 8 = .ok (.iconst 0, 1) := by decide +kernel
theorem dX12_rule__9 : decode cX12_rule_ 9 = .ok (.ireturn, 1) := by decide +kernel
theorem dX12_rule__10 : decode cX12_rule_ 10 = .ok (.iload_n 2, 1) := by decide +kernel
theorem dX12_rule__11 : decode cX12_rule_ 11 = .ok (.iconst (-1), 1) := by decide +kernel
theorem dX12_rule__12 : decode cX12_rule_ 12 = .ok (.if_icmp .ne 57, 3) := by decide +kernel
theorem dX12_rule__15 : decode cX12_rule_ 15 = .ok (.aload_n 0, 1) := by decide +kernel
theorem dX12_rule__16 : decode cX12_rule_ 16 = .ok (.iload_n 3, 1) := by decide +kernel
theorem dX12_rule__17 : decode cX12_rule_ 17 = .ok (.ifCond .eq 13, 3) := by decide +kernel
theorem dX12_rule__20 : decode cX12_rule_ 20 = .ok (.iload_n 3, 1) := by decide +kernel
theorem dX12_rule__21 : decode cX12_rule_ 21 = .ok (.bipush 14, 2) := by decide +kernel
theorem dX12_rule__23 : decode cX12_rule_ 23 = .ok (.if_icmp .eq 7, 3) := by decide +kernel
theorem dX12_rule__26 : decode cX12_rule_ 26 = .ok (.iconst 1, 1) := by decide +kernel
theorem dX12_rule__27 : decode cX12_rule_ 27 = .ok (.goto 4, 3) := by decide +kernel
theorem dX12_rule__30 : decode cX12_rule_ 30 = .ok (.iconst 0, 1) := by decide +kernel
theorem dX12_rule__31 : decode cX12_rule_ 31 = .ok (.iconst 2, 1) := by decide +kernel
theorem dX12_rule__32 : decode cX12_rule_ 32 = .ok (.invokevirtual 176, 3) := by decide +kernel
theorem dX12_rule__35 : decode cX12_rule_ 35 = .ok (.ifCond .eq 5, 3) := by decide +kernel
theorem dX12_rule__38 : decode cX12_rule_ 38 = .ok (.iconst 0, 1) := by decide +kernel
theorem dX12_rule__39 : decode cX12_rule_ 39 = .ok (.ireturn, 1) := by decide +kernel
theorem dX12_rule__40 : decode cX12_rule_ 40 = .ok (.iload_n 3, 1) := by decide +kernel
theorem dX12_rule__41 : decode cX12_rule_ 41 = .ok (.ifCond .ne 12, 3) := by decide +kernel
theorem dX12_rule__44 : decode cX12_rule_ 44 = .ok (.aload_n 0, 1) := by decide +kernel
theorem dX12_rule__45 : decode cX12_rule_ 45 = .ok (.getfield 43, 3) := by decide +kernel
theorem dX12_rule__48 : decode cX12_rule_ 48 = .ok (.iload_n 1, 1) := by decide +kernel
theorem dX12_rule__49 : decode cX12_rule_ 49 = .ok (.iaload, 1) := by decide +kernel
theorem dX12_rule__50 : decode cX12_rule_ 50 = .ok (.goto 18, 3) := by decide +kernel
theorem dX12_rule__53 : decode cX12_rule_ 53 = .ok (.iload_n 1, 1) := by decide +kernel
theorem dX12_rule__54 : decode cX12_rule_ 54 = .ok (.ifCond .ne 13, 3) := by decide +kernel
theorem dX12_rule__57 : decode cX12_rule_ 57 = .ok (.aload_n 0, 1) := by decide +kernel
theorem dX12_rule__58 : decode cX12_rule_ 58 = .ok (.getfield 53, 3) := by decide +kernel
theorem dX12_rule__61 : decode cX12_rule_ 61 = .ok (.bipush 16, 2) := by decide +kernel
theorem dX12_rule__63 : decode cX12_rule_ 63 = .ok (.iaload, 1) := by decide +kernel
theorem dX12_rule__64 : decode cX12_rule_ 64 = .ok (.goto 4, 3) := by decide +kernel
theorem dX12_rule__67 : decode cX12_rule_ 67 = .ok (.iconst 0, 1) := by decide +kernel
theorem dX12_rule__68 : decode cX12_rule_ 68 = .ok (.ireturn, 1) := by decide +kernel
theorem dX12_rule__69 : decode cX12_rule_ 69 = .ok (.aload_n 0, 1) := by decide +kernel
theorem dX12_rule__70 : decode cX12_rule_ 70 = .ok (.iload_n 2, 1) := by decide +kernel
theorem dX12_rule__71 : decode cX12_rule_ 71 = .ok (.ifCond .lt 23, 3) := by decide +kernel
theorem dX12_rule__74 : decode cX12_rule_ 74 = .ok (.iload_n 2, 1) := by decide +kernel
theorem dX12_rule__75 : decode cX12_rule_ 75 = .ok (.aload_n 0, 1) := by decide +kernel
theorem dX12_rule__76 : decode cX12_rule_ 76 = .ok (.getfield 46, 3) := by decide +kernel
theorem dX12_rule__79 : decode cX12_rule_ 79 = .ok (.iload_n 1, 1) := by decide +kernel
theorem dX12_rule__80 : decode cX12_rule_ 80 = .ok (.iaload, 1) := by decide +kernel
theorem dX12_rule__81 : decode cX12_rule_ 81 = .ok (.if_icmp .ge 13, 3) := by decide +kernel
theorem dX12_rule__84 : decode cX12_rule_ 84 = .ok (.iload_n 3, 1) := by decide +kernel
theorem dX12_rule__85 : decode cX12_rule_ 85 = .ok (.ifCond .lt 9, 3) := by decide +kernel
theorem dX12_rule__88 : decode cX12_rule_ 88 = .ok (.iload_n 3, 1) := by decide +kernel
theorem dX12_rule__89 : decode cX12_rule_ 89 = .ok (.bipush 14, 2) := by decide +kernel
theorem dX12_rule__91 : decode cX12_rule_ 91 = .ok (.if_icmp .le 7, 3) := by decide +kernel
theorem dX12_rule__94 : decode cX12_rule_ 94 = .ok (.iconst 1, 1) := by decide +kernel
theorem dX12_rule__95 : decode cX12_rule_ 95 = .ok (.goto 4, 3) := by decide +kernel
theorem dX12_rule__98 : decode cX12_rule_ 98 = .ok (.iconst 0, 1) := by decide +kernel
theorem dX12_rule__99 : decode cX12_rule_ 99 = .ok (.iconst 2, 1) := by decide +kernel
theorem dX12_rule__100 : decode cX12_rule_ 100 = .ok (.invokevirtual 176, 3) := by decide +kernel
theorem dX12_rule__103 : decode cX12_rule_ 103 = .ok (.ifCond .eq 5, 3) := by decide +kernel
theorem dX12_rule__106 : decode cX12_rule_ 106 = .ok (.iconst 0, 1) := by decide +kernel
theorem dX12_rule__107 : decode cX12_rule_ 107 = .ok (.ireturn, 1) := by decide +kernel
theorem dX12_rule__108 : decode cX12_rule_ 108 = .ok (.bipush 16, 2) := by decide +kernel
theorem dX12_rule__110 : decode cX12_rule_ 110 = .ok (.iload_n 1, 1) := by decide +kernel
theorem dX12_rule__111 : decode cX12_rule_ 111 = .ok (.imul, 1) := by decide +kernel
theorem dX12_rule__112 : decode cX12_rule_ 112 = .ok (.iload_n 2, 1) := by decide +kernel
theorem dX12_rule__113 : decode cX12_rule_ 113 = .ok (.iadd, 1) := by decide +kernel
theorem dX12_rule__114 : decode cX12_rule_ 114 = .ok (.istore 4, 2) := by decide +kernel
theorem dX12_rule__116 : decode cX12_rule_ 116 = .ok (.iload_n 3, 1) := by decide +kernel
theorem dX12_rule__117 : decode cX12_rule_ 117 = .ok (.iconst 2, 1) := by decide +kernel
theorem dX12_rule__118 : decode cX12_rule_ 118 = .ok (.if_icmp .ge 25, 3) := by decide +kernel
theorem dX12_rule__121 : decode cX12_rule_ 121 = .ok (.iload_n 3, 1) := by decide +kernel
theorem dX12_rule__122 : decode cX12_rule_ 122 = .ok (.ifCond .ne 13, 3) := by decide +kernel
theorem dX12_rule__125 : decode cX12_rule_ 125 = .ok (.aload_n 0, 1) := by decide +kernel
theorem dX12_rule__126 : decode cX12_rule_ 126 = .ok (.getfield 29, 3) := by decide +kernel
theorem dX12_rule__129 : decode cX12_rule_ 129 = .ok (.iload 4, 2) := by decide +kernel
theorem dX12_rule__131 : decode cX12_rule_ 131 = .ok (.iaload, 1) := by decide +kernel
theorem dX12_rule__132 : decode cX12_rule_ 132 = .ok (.goto 10, 3) := by decide +kernel
theorem dX12_rule__135 : decode cX12_rule_ 135 = .ok (.aload_n 0, 1) := by decide +kernel
theorem dX12_rule__136 : decode cX12_rule_ 136 = .ok (.getfield 33, 3) := by decide +kernel
theorem dX12_rule__139 : decode cX12_rule_ 139 = .ok (.iload 4, 2) := by decide +kernel
theorem dX12_rule__141 : decode cX12_rule_ 141 = .ok (.iaload, 1) := by decide +kernel
theorem dX12_rule__142 : decode cX12_rule_ 142 = .ok (.ireturn, 1) := by decide +kernel
theorem dX12_rule__143 : decode cX12_rule_ 143 = .ok (.iload_n 3, 1) := by decide +kernel
theorem dX12_rule__144 : decode cX12_rule_ 144 = .ok (.bipush 14, 2) := by decide +kernel
theorem dX12_rule__146 : decode cX12_rule_ 146 = .ok (.if_icmp .ne 18, 3) := by decide +kernel
theorem dX12_rule__149 : decode cX12_rule_ 149 = .ok (.iload_n 1, 1) := by decide +kernel
theorem dX12_rule__150 : decode cX12_rule_ 150 = .ok (.ifCond .ne 12, 3) := by decide +kernel
theorem dX12_rule__153 : decode cX12_rule_ 153 = .ok (.aload_n 0, 1) := by decide +kernel
theorem dX12_rule__154 : decode cX12_rule_ 154 = .ok (.getfield 53, 3) := by decide +kernel
theorem dX12_rule__157 : decode cX12_rule_ 157 = .ok (.iload_n 2, 1) := by decide +kernel
theorem dX12_rule__158 : decode cX12_rule_ 158 = .ok (.iaload, 1) := by decide +kernel
theorem dX12_rule__159 : decode cX12_rule_ 159 = .ok (.goto 4, 3) := by decide +kernel
theorem dX12_rule__162 : decode cX12_rule_ 162 = .ok (.iconst 0, 1) := by decide +kernel
theorem dX12_rule__163 : decode cX12_rule_ 163 = .ok (.ireturn, 1) := by decide +kernel
theorem dX12_rule__164 : decode cX12_rule_ 164 = .ok (.bipush 6, 2) := by decide +kernel
theorem dX12_rule__166 : decode cX12_rule_ 166 = .ok (.iload 4, 2) := by decide +kernel
theorem dX12_rule__168 : decode cX12_rule_ 168 = .ok (.imul, 1) := by decide +kernel
theorem dX12_rule__169 : decode cX12_rule_ 169 = .ok (.iload_n 3, 1) := by decide +kernel
theorem dX12_rule__170 : decode cX12_rule_ 170 = .ok (.iconst 2, 1) := by decide +kernel
theorem dX12_rule__171 : decode cX12_rule_ 171 = .ok (.isub, 1) := by decide +kernel
theorem dX12_rule__172 : decode cX12_rule_ 172 = .ok (.iconst 2, 1) := by decide +kernel
theorem dX12_rule__173 : decode cX12_rule_ 173 = .ok (.idiv, 1) := by decide +kernel
theorem dX12_rule__174 : decode cX12_rule_ 174 = .ok (.iadd, 1) := by decide +kernel
theorem dX12_rule__175 : decode cX12_rule_ 175 = .ok (.istore 5, 2) := by decide +kernel
theorem dX12_rule__177 : decode cX12_rule_ 177 = .ok (.iload_n 3, 1) := by decide +kernel
theorem dX12_rule__178 : decode cX12_rule_ 178 = .ok (.iconst 2, 1) := by decide +kernel
theorem dX12_rule__179 : decode cX12_rule_ 179 = .ok (.irem, 1) := by decide +kernel
theorem dX12_rule__180 : decode cX12_rule_ 180 = .ok (.ifCond .ne 13, 3) := by decide +kernel
theorem dX12_rule__183 : decode cX12_rule_ 183 = .ok (.aload_n 0, 1) := by decide +kernel
theorem dX12_rule__184 : decode cX12_rule_ 184 = .ok (.getfield 36, 3) := by decide +kernel
theorem dX12_rule__187 : decode cX12_rule_ 187 = .ok (.iload 5, 2) := by decide +kernel
theorem dX12_rule__189 : decode cX12_rule_ 189 = .ok (.laload, 1) := by decide +kernel
theorem dX12_rule__190 : decode cX12_rule_ 190 = .ok (.goto 10, 3) := by decide +kernel
theorem dX12_rule__193 : decode cX12_rule_ 193 = .ok (.aload_n 0, 1) := by decide +kernel
theorem dX12_rule__194 : decode cX12_rule_ 194 = .ok (.getfield 40, 3) := by decide +kernel
theorem dX12_rule__197 : decode cX12_rule_ 197 = .ok (.iload 5, 2) := by decide +kernel
theorem dX12_rule__199 : decode cX12_rule_ 199 = .ok (.laload, 1) := by decide +kernel
theorem dX12_rule__200 : decode cX12_rule_ 200 = .ok (.l2i, 1) := by decide +kernel
theorem dX12_rule__201 : decode cX12_rule_ 201 = .ok (.ireturn, 1) := by decide +kernel
theorem e_X12_rule__99 {X : gk_X} {F : Nat} {l0 : Nat} {l1 : Int32} {l2 : Int32} {l3 : Int32} {s0 : Int32} {s1 : Nat} {S : gk_S} {r : (Int32 × gk_S)} (h0 : f_X12_rule__99 F l0 l1 l2 l3 s0 s1 S = some r) : EvW X m_X12_rule_ 3 0 0 99 [some (.ref l0), some (.int l1), some (.int l2), some (.int l3), none, none] [.int s0, .ref s1] S (qRI r) := by
  unfold f_X12_rule__99 at h0
  refine ev_iconst (pc := 99) (v := 2) (by decide) dX12_rule__99 ?_
  obtain ⟨g13, h14⟩ := qk_el h0; clear h0
  obtain ⟨x15, S16, e17, h18⟩ := qc_el h14; clear h14
  refine xv_callV (pc := 100) (st := []) (as := [.int s0, .int 2]) (v := (some (.int x15))) (S' := S16) ok_X12_throwsIf (e_X12_throwsIf e17) (isb_el g13) (by decide) rfl (Nat.le_of_ble_eq_true rfl) rfl gw_1272 dX12_rule__100 ?_
  refine ev_if_eq (pc := 103) (tgt := 108) (by decide) dX12_rule__103 (fun c19 => ?_) (fun c19 => ?_)
  · replace h18 := qi_t h18 c19
    refine ev_bipush (pc := 108) (v := 16) (by decide) dX12_rule__108 ?_
    refine ev_iload_n (pc := 110) (i := 1) rfl rfl dX12_rule__110 ?_
    refine ev_imul (pc := 111)  dX12_rule__111 ?_
    refine ev_iload_n (pc := 112) (i := 2) rfl rfl dX12_rule__112 ?_
    refine ev_iadd (pc := 113)  dX12_rule__113 ?_
    refine ev_istore (pc := 114) (L' := [some (.ref l0), some (.int l1), some (.int l2), some (.int l3), some (.int ((16 * l1) + l2)), none]) (i := 4) (by decide) rfl rfl dX12_rule__114 ?_
    refine ev_iload_n (pc := 116) (i := 3) rfl rfl dX12_rule__116 ?_
    refine ev_iconst (pc := 117) (v := 2) (by decide) dX12_rule__117 ?_
    refine ev_ic_ge (pc := 118) (tgt := 143) (by decide) dX12_rule__118 (fun c21 => ?_) (fun c21 => ?_)
    · replace h18 := qi_t h18 c21
      refine ev_iload_n (pc := 143) (i := 3) rfl rfl dX12_rule__143 ?_
      refine ev_bipush (pc := 144) (v := 14) (by decide) dX12_rule__144 ?_
      refine ev_ic_ne (pc := 146) (tgt := 164) (by decide) dX12_rule__146 (fun c23 => ?_) (fun c23 => ?_)
      · replace h18 := qi_f h18 c23
        refine ev_bipush (pc := 164) (v := 6) (by decide) dX12_rule__164 ?_
        refine ev_iload (pc := 166) (i := 4) rfl dX12_rule__166 ?_
        refine ev_imul (pc := 168)  dX12_rule__168 ?_
        refine ev_iload_n (pc := 169) (i := 3) rfl rfl dX12_rule__169 ?_
        refine ev_iconst (pc := 170) (v := 2) (by decide) dX12_rule__170 ?_
        refine ev_isub (pc := 171)  dX12_rule__171 ?_
        refine ev_iconst (pc := 172) (v := 2) (by decide) dX12_rule__172 ?_
        refine ev_idiv (pc := 173) (by decide) dX12_rule__173 ?_
        refine ev_iadd (pc := 174)  dX12_rule__174 ?_
        obtain ⟨x25, e26, h27⟩ := qv_el h18; clear h18
        refine xv_top e26 ?_
        refine ev_istore (pc := 175) (L' := [some (.ref l0), some (.int l1), some (.int l2), some (.int l3), some (.int ((16 * l1) + l2)), some (.int x25)]) (i := 5) (by decide) rfl rfl dX12_rule__175 ?_
        refine ev_iload_n (pc := 177) (i := 3) rfl rfl dX12_rule__177 ?_
        refine ev_iconst (pc := 178) (v := 2) (by decide) dX12_rule__178 ?_
        refine ev_irem (pc := 179) (by decide) dX12_rule__179 ?_
        refine ev_if_ne (pc := 180) (tgt := 193) (by decide) dX12_rule__180 (fun c28 => ?_) (fun c28 => ?_)
        · replace h27 := qi_f h27 c28
          refine ev_aload_n (pc := 193) (i := 0) rfl rfl rfl dX12_rule__193 ?_
          obtain ⟨g30, h31⟩ := qk_el h27; clear h27
          obtain ⟨b32, e33, h34⟩ := qP_el h31; clear h31
          refine xv_getP (pc := 194) fn_910 (isb_el g30) e33 gw_1150 dX12_rule__194 ?_
          refine ev_iload (pc := 197) (i := 5) rfl dX12_rule__197 ?_
          obtain ⟨g35, h36⟩ := qk_el h34; clear h34
          obtain ⟨g37, h38⟩ := qk_el h36; clear h36
          obtain ⟨x39, e40, h41⟩ := qv_el h38; clear h38
          refine yv_lald (pc := 199) (isb_el g35) (inb_el g37) e40 dX12_rule__199 ?_
          refine ev_l2i (pc := 200)  dX12_rule__200 ?_
          exact ev_ireturn (pc := 201) rfl (nar_int _) (qRI_eq h41) dX12_rule__201
        · replace h27 := qi_t h27 c28
          refine ev_aload_n (pc := 183) (i := 0) rfl rfl rfl dX12_rule__183 ?_
          obtain ⟨g42, h43⟩ := qk_el h27; clear h27
          obtain ⟨b44, e45, h46⟩ := qP_el h43; clear h43
          refine xv_getP (pc := 184) fn_909 (isb_el g42) e45 gw_1149 dX12_rule__184 ?_
          refine ev_iload (pc := 187) (i := 5) rfl dX12_rule__187 ?_
          obtain ⟨g47, h48⟩ := qk_el h46; clear h46
          obtain ⟨g49, h50⟩ := qk_el h48; clear h48
          obtain ⟨x51, e52, h53⟩ := qv_el h50; clear h50
          refine yv_lald (pc := 189) (isb_el g47) (inb_el g49) e52 dX12_rule__189 ?_
          refine ev_goto (pc := 190) (tgt := 200) (by decide) dX12_rule__190 ?_
          refine ev_l2i (pc := 200)  dX12_rule__200 ?_
          exact ev_ireturn (pc := 201) rfl (nar_int _) (qRI_eq h53) dX12_rule__201
      · replace h18 := qi_t h18 c23
        refine ev_iload_n (pc := 149) (i := 1) rfl rfl dX12_rule__149 ?_
        refine ev_if_ne (pc := 150) (tgt := 162) (by decide) dX12_rule__150 (fun c54 => ?_) (fun c54 => ?_)
        · replace h18 := qi_f h18 c54
          refine ev_iconst (pc := 162) (v := 0) (by decide) dX12_rule__162 ?_
          exact ev_ireturn (pc := 163) rfl (nar_int _) (qRI_eq h18) dX12_rule__163
        · replace h18 := qi_t h18 c54
          refine ev_aload_n (pc := 153) (i := 0) rfl rfl rfl dX12_rule__153 ?_
          obtain ⟨g56, h57⟩ := qk_el h18; clear h18
          obtain ⟨b58, e59, h60⟩ := qP_el h57; clear h57
          refine xv_getP (pc := 154) fn_911 (isb_el g56) e59 gw_1151 dX12_rule__154 ?_
          refine ev_iload_n (pc := 157) (i := 2) rfl rfl dX12_rule__157 ?_
          obtain ⟨g61, h62⟩ := qk_el h60; clear h60
          obtain ⟨g63, h64⟩ := qk_el h62; clear h62
          obtain ⟨x65, e66, h67⟩ := qv_el h64; clear h64
          refine yv_iald (pc := 158) (isb_el g61) (inb_el g63) e66 dX12_rule__158 ?_
          refine ev_goto (pc := 159) (tgt := 163) (by decide) dX12_rule__159 ?_
          exact ev_ireturn (pc := 163) rfl (nar_int _) (qRI_eq h67) dX12_rule__163
    · replace h18 := qi_f h18 c21
      refine ev_iload_n (pc := 121) (i := 3) rfl rfl dX12_rule__121 ?_
      refine ev_if_ne (pc := 122) (tgt := 135) (by decide) dX12_rule__122 (fun c68 => ?_) (fun c68 => ?_)
      · replace h18 := qi_f h18 c68
        refine ev_aload_n (pc := 135) (i := 0) rfl rfl rfl dX12_rule__135 ?_
        obtain ⟨g70, h71⟩ := qk_el h18; clear h18
        obtain ⟨b72, e73, h74⟩ := qP_el h71; clear h71
        refine xv_getP (pc := 136) fn_908 (isb_el g70) e73 gw_1148 dX12_rule__136 ?_
        refine ev_iload (pc := 139) (i := 4) rfl dX12_rule__139 ?_
        obtain ⟨g75, h76⟩ := qk_el h74; clear h74
        obtain ⟨g77, h78⟩ := qk_el h76; clear h76
        obtain ⟨x79, e80, h81⟩ := qv_el h78; clear h78
        refine yv_iald (pc := 141) (isb_el g75) (inb_el g77) e80 dX12_rule__141 ?_
        exact ev_ireturn (pc := 142) rfl (nar_int _) (qRI_eq h81) dX12_rule__142
      · replace h18 := qi_t h18 c68
        refine ev_aload_n (pc := 125) (i := 0) rfl rfl rfl dX12_rule__125 ?_
        obtain ⟨g82, h83⟩ := qk_el h18; clear h18
        obtain ⟨b84, e85, h86⟩ := qP_el h83; clear h83
        refine xv_getP (pc := 126) fn_907 (isb_el g82) e85 gw_1147 dX12_rule__126 ?_
        refine ev_iload (pc := 129) (i := 4) rfl dX12_rule__129 ?_
        obtain ⟨g87, h88⟩ := qk_el h86; clear h86
        obtain ⟨g89, h90⟩ := qk_el h88; clear h88
        obtain ⟨x91, e92, h93⟩ := qv_el h90; clear h90
        refine yv_iald (pc := 131) (isb_el g87) (inb_el g89) e92 dX12_rule__131 ?_
        refine ev_goto (pc := 132) (tgt := 142) (by decide) dX12_rule__132 ?_
        exact ev_ireturn (pc := 142) rfl (nar_int _) (qRI_eq h93) dX12_rule__142
  · replace h18 := qi_f h18 c19
    refine ev_iconst (pc := 106) (v := 0) (by decide) dX12_rule__106 ?_
    exact ev_ireturn (pc := 107) rfl (nar_int _) (qRI_eq h18) dX12_rule__107
theorem e_X12_rule__31 {X : gk_X} {F : Nat} {l0 : Nat} {l1 : Int32} {l3 : Int32} {s0 : Int32} {s1 : Nat} {S : gk_S} {r : (Int32 × gk_S)} (h0 : f_X12_rule__31 F l0 l1 l3 s0 s1 S = some r) : EvW X m_X12_rule_ 3 0 0 31 [some (.ref l0), some (.int l1), none, some (.int l3), none, none] [.int s0, .ref s1] S (qRI r) := by
  unfold f_X12_rule__31 at h0
  refine ev_iconst (pc := 31) (v := 2) (by decide) dX12_rule__31 ?_
  obtain ⟨g114, h115⟩ := qk_el h0; clear h0
  obtain ⟨x116, S117, e118, h119⟩ := qc_el h115; clear h115
  refine xv_callV (pc := 32) (st := []) (as := [.int s0, .int 2]) (v := (some (.int x116))) (S' := S117) ok_X12_throwsIf (e_X12_throwsIf e118) (isb_el g114) (by decide) rfl (Nat.le_of_ble_eq_true rfl) rfl gw_1272 dX12_rule__32 ?_
  refine ev_if_eq (pc := 35) (tgt := 40) (by decide) dX12_rule__35 (fun c120 => ?_) (fun c120 => ?_)
  · replace h119 := qi_t h119 c120
    refine ev_iload_n (pc := 40) (i := 3) rfl rfl dX12_rule__40 ?_
    refine ev_if_ne (pc := 41) (tgt := 53) (by decide) dX12_rule__41 (fun c122 => ?_) (fun c122 => ?_)
    · replace h119 := qi_f h119 c122
      refine ev_iload_n (pc := 53) (i := 1) rfl rfl dX12_rule__53 ?_
      refine ev_if_ne (pc := 54) (tgt := 67) (by decide) dX12_rule__54 (fun c124 => ?_) (fun c124 => ?_)
      · replace h119 := qi_f h119 c124
        refine ev_iconst (pc := 67) (v := 0) (by decide) dX12_rule__67 ?_
        exact ev_ireturn (pc := 68) rfl (nar_int _) (qRI_eq h119) dX12_rule__68
      · replace h119 := qi_t h119 c124
        refine ev_aload_n (pc := 57) (i := 0) rfl rfl rfl dX12_rule__57 ?_
        obtain ⟨g126, h127⟩ := qk_el h119; clear h119
        obtain ⟨b128, e129, h130⟩ := qP_el h127; clear h127
        refine xv_getP (pc := 58) fn_911 (isb_el g126) e129 gw_1151 dX12_rule__58 ?_
        refine ev_bipush (pc := 61) (v := 16) (by decide) dX12_rule__61 ?_
        obtain ⟨g131, h132⟩ := qk_el h130; clear h130
        obtain ⟨g133, h134⟩ := qk_el h132; clear h132
        obtain ⟨x135, e136, h137⟩ := qv_el h134; clear h134
        refine yv_iald (pc := 63) (isb_el g131) (inb_el g133) e136 dX12_rule__63 ?_
        refine ev_goto (pc := 64) (tgt := 68) (by decide) dX12_rule__64 ?_
        exact ev_ireturn (pc := 68) rfl (nar_int _) (qRI_eq h137) dX12_rule__68
    · replace h119 := qi_t h119 c122
      refine ev_aload_n (pc := 44) (i := 0) rfl rfl rfl dX12_rule__44 ?_
      obtain ⟨g138, h139⟩ := qk_el h119; clear h119
      obtain ⟨b140, e141, h142⟩ := qP_el h139; clear h139
      refine xv_getP (pc := 45) fn_905 (isb_el g138) e141 gw_1145 dX12_rule__45 ?_
      refine ev_iload_n (pc := 48) (i := 1) rfl rfl dX12_rule__48 ?_
      obtain ⟨g143, h144⟩ := qk_el h142; clear h142
      obtain ⟨g145, h146⟩ := qk_el h144; clear h144
      obtain ⟨x147, e148, h149⟩ := qv_el h146; clear h146
      refine yv_iald (pc := 49) (isb_el g143) (inb_el g145) e148 dX12_rule__49 ?_
      refine ev_goto (pc := 50) (tgt := 68) (by decide) dX12_rule__50 ?_
      exact ev_ireturn (pc := 68) rfl (nar_int _) (qRI_eq h149) dX12_rule__68
  · replace h119 := qi_f h119 c120
    refine ev_iconst (pc := 38) (v := 0) (by decide) dX12_rule__38 ?_
    exact ev_ireturn (pc := 39) rfl (nar_int _) (qRI_eq h119) dX12_rule__39
theorem e_X12_rule_ {X : gk_X} {F : Nat} {S : gk_S} {a : Nat} {p0 : Int32} {p1 : Int32} {p2 : Int32} {r : (Int32 × gk_S)} (h0 : f_X12_rule_ F S a p0 p1 p2 = some r) : EvM X m_X12_rule_ 3 0 0 [.ref a, .int p0, .int p1, .int p2] S (qRI r) := by
  unfold f_X12_rule_ at h0
  refine ev_method (by decide +kernel) rfl rfl (Nat.le_of_ble_eq_true rfl) ?_
  show EvW X m_X12_rule_ 3 0 0 0 [some (.ref a), some (.int p0), some (.int p1), some (.int p2), none, none] [] S _
  refine ev_aload_n (pc := 0) (i := 0) rfl rfl rfl dX12_rule__0 ?_
  refine ev_iload_n (pc := 1) (i := 1) rfl rfl dX12_rule__1 ?_
  obtain ⟨g1, h2⟩ := qk_el h0; clear h0
  obtain ⟨x3, S4, e5, h6⟩ := qc_el h2; clear h2
  refine xv_callV (pc := 2) (st := []) (as := [.int p0]) (v := (some (.int x3))) (S' := S4) ok_X12_noList (e_X12_noList e5) (isb_el g1) (by decide) rfl (Nat.le_of_ble_eq_true rfl) rfl gw_1387 dX12_rule__2 ?_
  refine ev_if_eq (pc := 5) (tgt := 10) (by decide) dX12_rule__5 (fun c7 => ?_) (fun c7 => ?_)
  · replace h6 := qi_t h6 c7
    refine ev_iload_n (pc := 10) (i := 2) rfl rfl dX12_rule__10 ?_
    refine ev_iconst (pc := 11) (v := -1) (by decide) dX12_rule__11 ?_
    refine ev_ic_ne (pc := 12) (tgt := 69) (by decide) dX12_rule__12 (fun c9 => ?_) (fun c9 => ?_)
    · replace h6 := qi_f h6 c9
      refine ev_aload_n (pc := 69) (i := 0) rfl rfl rfl dX12_rule__69 ?_
      refine ev_iload_n (pc := 70) (i := 2) rfl rfl dX12_rule__70 ?_
      refine ev_if_lt (pc := 71) (tgt := 94) (by decide) dX12_rule__71 (fun c11 => ?_) (fun c11 => ?_)
      · replace h6 := qi_t h6 c11
        refine ev_iconst (pc := 94) (v := 1) (by decide) dX12_rule__94 ?_
        refine ev_goto (pc := 95) (tgt := 99) (by decide) dX12_rule__95 ?_
        exact ev_weak (qL_s (qL_s (qL_s (qL_s (qL_n (qL_n qL_nil)))))) (e_X12_rule__99 h6)
      · replace h6 := qi_f h6 c11
        refine ev_iload_n (pc := 74) (i := 2) rfl rfl dX12_rule__74 ?_
        refine ev_aload_n (pc := 75) (i := 0) rfl rfl rfl dX12_rule__75 ?_
        obtain ⟨g94, h95⟩ := qk_el h6; clear h6
        obtain ⟨b96, e97, h98⟩ := qP_el h95; clear h95
        refine xv_getP (pc := 76) fn_906 (isb_el g94) e97 gw_1146 dX12_rule__76 ?_
        refine ev_iload_n (pc := 79) (i := 1) rfl rfl dX12_rule__79 ?_
        obtain ⟨g99, h100⟩ := qk_el h98; clear h98
        obtain ⟨g101, h102⟩ := qk_el h100; clear h100
        obtain ⟨x103, e104, h105⟩ := qv_el h102; clear h102
        refine yv_iald (pc := 80) (isb_el g99) (inb_el g101) e104 dX12_rule__80 ?_
        refine ev_ic_ge (pc := 81) (tgt := 94) (by decide) dX12_rule__81 (fun c106 => ?_) (fun c106 => ?_)
        · replace h105 := qi_t h105 c106
          refine ev_iconst (pc := 94) (v := 1) (by decide) dX12_rule__94 ?_
          refine ev_goto (pc := 95) (tgt := 99) (by decide) dX12_rule__95 ?_
          exact ev_weak (qL_s (qL_s (qL_s (qL_s (qL_n (qL_n qL_nil)))))) (e_X12_rule__99 h105)
        · replace h105 := qi_f h105 c106
          refine ev_iload_n (pc := 84) (i := 3) rfl rfl dX12_rule__84 ?_
          refine ev_if_lt (pc := 85) (tgt := 94) (by decide) dX12_rule__85 (fun c108 => ?_) (fun c108 => ?_)
          · replace h105 := qi_t h105 c108
            refine ev_iconst (pc := 94) (v := 1) (by decide) dX12_rule__94 ?_
            refine ev_goto (pc := 95) (tgt := 99) (by decide) dX12_rule__95 ?_
            exact ev_weak (qL_s (qL_s (qL_s (qL_s (qL_n (qL_n qL_nil)))))) (e_X12_rule__99 h105)
          · replace h105 := qi_f h105 c108
            refine ev_iload_n (pc := 88) (i := 3) rfl rfl dX12_rule__88 ?_
            refine ev_bipush (pc := 89) (v := 14) (by decide) dX12_rule__89 ?_
            refine ev_ic_le (pc := 91) (tgt := 98) (by decide) dX12_rule__91 (fun c110 => ?_) (fun c110 => ?_)
            · replace h105 := qi_t h105 c110
              refine ev_iconst (pc := 98) (v := 0) (by decide) dX12_rule__98 ?_
              exact ev_weak (qL_s (qL_s (qL_s (qL_s (qL_n (qL_n qL_nil)))))) (e_X12_rule__99 h105)
            · replace h105 := qi_f h105 c110
              refine ev_iconst (pc := 94) (v := 1) (by decide) dX12_rule__94 ?_
              refine ev_goto (pc := 95) (tgt := 99) (by decide) dX12_rule__95 ?_
              exact ev_weak (qL_s (qL_s (qL_s (qL_s (qL_n (qL_n qL_nil)))))) (e_X12_rule__99 h105)
    · replace h6 := qi_t h6 c9
      refine ev_aload_n (pc := 15) (i := 0) rfl rfl rfl dX12_rule__15 ?_
      refine ev_iload_n (pc := 16) (i := 3) rfl rfl dX12_rule__16 ?_
      refine ev_if_eq (pc := 17) (tgt := 30) (by decide) dX12_rule__17 (fun c112 => ?_) (fun c112 => ?_)
      · replace h6 := qi_t h6 c112
        refine ev_iconst (pc := 30) (v := 0) (by decide) dX12_rule__30 ?_
        exact ev_weak (qL_s (qL_s (qL_n (qL_s (qL_n (qL_n qL_nil)))))) (e_X12_rule__31 h6)
      · replace h6 := qi_f h6 c112
        refine ev_iload_n (pc := 20) (i := 3) rfl rfl dX12_rule__20 ?_
        refine ev_bipush (pc := 21) (v := 14) (by decide) dX12_rule__21 ?_
        refine ev_ic_eq (pc := 23) (tgt := 30) (by decide) dX12_rule__23 (fun c150 => ?_) (fun c150 => ?_)
        · replace h6 := qi_t h6 c150
          refine ev_iconst (pc := 30) (v := 0) (by decide) dX12_rule__30 ?_
          exact ev_weak (qL_s (qL_s (qL_n (qL_s (qL_n (qL_n qL_nil)))))) (e_X12_rule__31 h6)
        · replace h6 := qi_f h6 c150
          refine ev_iconst (pc := 26) (v := 1) (by decide) dX12_rule__26 ?_
          refine ev_goto (pc := 27) (tgt := 31) (by decide) dX12_rule__27 ?_
          exact ev_weak (qL_s (qL_s (qL_n (qL_s (qL_n (qL_n qL_nil)))))) (e_X12_rule__31 h6)
  · replace h6 := qi_f h6 c7
    refine ev_iconst (pc := 8) (v := 0) (by decide) dX12_rule__8 ?_
    exact ev_ireturn (pc := 9) rfl (nar_int _) (qRI_eq h6) dX12_rule__9
theorem dX2_addText_0 : decode cX2_addText 0 = .ok (.iconst 0, 1) := by decide +kernel
theorem dX2_addText_1 : decode cX2_addText 1 = .ok (.istore_n 2, 1) := by decide +kernel
theorem dX2_addText_2 : decode cX2_addText 2 = .ok (.iload_n 2, 1) := by decide +kernel
theorem dX2_addText_3 : decode cX2_addText 3 = .ok (.aload_n 1, 1) := by decide +kernel
theorem dX2_addText_4 : decode cX2_addText 4 = .ok (.invokevirtual 33, 3) := by decide +kernel
theorem dX2_addText_7 : decode cX2_addText 7 = .ok (.if_icmp .ge 18, 3) := by decide +kernel
theorem dX2_addText_10 : decode cX2_addText 10 = .ok (.aload_n 0, 1) := by decide +kernel
theorem dX2_addText_11 : decode cX2_addText 11 = .ok (.aload_n 1, 1) := by decide +kernel
theorem dX2_addText_12 : decode cX2_addText 12 = .ok (.iload_n 2, 1) := by decide +kernel
theorem dX2_addText_13 : decode cX2_addText 13 = .ok (.invokevirtual 39, 3) := by decide +kernel
theorem dX2_addText_16 : decode cX2_addText 16 = .ok (.invokevirtual 26, 3) := by decide +kernel
theorem dX2_addText_19 : decode cX2_addText 19 = .ok (.iinc 2 1, 3) := by decide +kernel
theorem dX2_addText_22 : decode cX2_addText 22 = .ok (.goto (-20), 3) := by decide +kernel
theorem dX2_addText_25 : decode cX2_addText 25 = .ok (.return_, 1) := by decide +kernel
theorem e_X2_addText_2 {X : gk_X} {F : Nat} : ∀ (n : Nat) (l0 : Nat) (l1 : Nat) (l2 : Int32) (S : gk_S) (r : (Unit × gk_S)), f_X2_addText_2 F n l0 l1 l2 S = some r → EvW X m_X2_addText 5 0 0 2 [some (.ref l0), some (.retAddr (10 + l1)), some (.int l2)] [] S (qRU r) := by
  intro n
  induction n with
  | zero => intro l0 l1 l2 S r h0; rw [f_X2_addText_2] at h0; cases h0
  | succ n ih =>
    intro l0 l1 l2 S r h0; rw [f_X2_addText_2] at h0
    refine ev_iload_n (pc := 2) (i := 2) rfl rfl dX2_addText_2 ?_
    obtain ⟨g2, h3⟩ := qk_el h0; clear h0
    refine ev_aload_n (pc := 3) (i := 1) rfl rfl (by simp [gk_isR]; have := (ltb_el g2); omega) dX2_addText_3 ?_
    obtain ⟨x4, S5, e6, h7⟩ := qc_el h3; clear h3
    refine xv_callT (pc := 4) (st := [.int l2]) (as := []) (v := (some (.int x4))) (S' := S5) (i9 := l1) ok_J0_length_8abf5 (e_J0_length_8abf5 e6) (ltb_el g2) (by decide) rfl (Nat.le_of_ble_eq_true rfl) rfl gw_721 dX2_addText_4 ?_
    refine ev_ic_ge (pc := 7) (tgt := 25) (by decide) dX2_addText_7 (fun c8 => ?_) (fun c8 => ?_)
    · replace h7 := qi_t h7 c8
      exact ev_return (pc := 25) rfl (qRU_eq h7) dX2_addText_25
    · replace h7 := qi_f h7 c8
      refine ev_aload_n (pc := 10) (i := 0) rfl rfl rfl dX2_addText_10 ?_
      refine ev_aload_n (pc := 11) (i := 1) rfl rfl (by simp [gk_isR]; have := (ltb_el g2); omega) dX2_addText_11 ?_
      refine ev_iload_n (pc := 12) (i := 2) rfl rfl dX2_addText_12 ?_
      obtain ⟨x10, S11, e12, h13⟩ := qc_el h7; clear h7
      refine xv_callT (pc := 13) (st := [.ref l0]) (as := [.int l2]) (v := (some (.int x10))) (S' := S11) (i9 := l1) ok_J0_charAt_5068e (e_J0_charAt_5068e e12) (ltb_el g2) (by decide) rfl (Nat.le_of_ble_eq_true rfl) rfl gw_722 dX2_addText_13 ?_
      obtain ⟨g14, h15⟩ := qk_el h13; clear h13
      obtain ⟨x16, S17, e18, h19⟩ := qc_el h15; clear h15
      refine xv_callV (pc := 16) (st := []) (as := [.int x10]) (v := none) (S' := S17) ok_X2_add (e_X2_add e18) (isb_el g14) (by decide) rfl (Nat.le_of_ble_eq_true rfl) rfl gw_337 dX2_addText_16 ?_
      refine ev_iinc (pc := 19) (L' := [some (.ref l0), some (.retAddr (10 + l1)), some (.int (l2 + 1))]) (i := 2) (v := (l2 + 1)) rfl rfl (by decide) (by simp [gk_okL, gk_isR]; have := (ltb_el g2); omega) rfl dX2_addText_19 ?_
      refine ev_goto (pc := 22) (tgt := 2) (by decide) dX2_addText_22 ?_
      exact (ev_weak (qL_s (qL_s (qL_s qL_nil))) (ih _ _ _ _ _ h19))
theorem e_X2_addText {X : gk_X} {F : Nat} {S : gk_S} {a : Nat} {p0 : Nat} {r : (Unit × gk_S)} (h0 : f_X2_addText F S a p0 = some r) : EvM X m_X2_addText 5 0 0 [.ref a, .retAddr (10 + p0)] S (qRU r) := by
  unfold f_X2_addText at h0
  obtain ⟨g1, h1⟩ := qk_el h0; clear h0; rename _ => h0
  refine ev_method (by decide +kernel) rfl (by simp [gk_okv, gk_isR]; have := (ltb_el g1); omega) (Nat.le_of_ble_eq_true rfl) ?_
  show EvW X m_X2_addText 5 0 0 0 [some (.ref a), some (.retAddr (10 + p0)), none] [] S _
  refine ev_iconst (pc := 0) (v := 0) (by decide) dX2_addText_0 ?_
  refine ev_istore_n (pc := 1) (L' := [some (.ref a), some (.retAddr (10 + p0)), some (.int 0)]) (i := 2) rfl (by decide) (by simp [gk_okL, gk_isR]; have := (ltb_el g1); omega) rfl dX2_addText_1 ?_
  exact ev_weak (qL_s (qL_s (qL_s qL_nil))) (e_X2_addText_2 F _ _ _ _ _ h0)
theorem dX1_putEnd_0 : decode cX1_putEnd 0 = .ok (.aload_n 0, 1) := by decide +kernel
theorem dX1_putEnd_1 : decode cX1_putEnd 1 = .ok (.bipush 59, 2) := by decide +kernel
theorem dX1_putEnd_3 : decode cX1_putEnd 3 = .ok (.invokevirtual 53, 3) := by decide +kernel
theorem dX1_putEnd_6 : decode cX1_putEnd 6 = .ok (.aload_n 0, 1) := by decide +kernel
theorem dX1_putEnd_7 : decode cX1_putEnd 7 = .ok (.bipush 10, 2) := by decide +kernel
theorem dX1_putEnd_9 : decode cX1_putEnd 9 = .ok (.invokevirtual 53, 3) := by decide +kernel
theorem dX1_putEnd_12 : decode cX1_putEnd 12 = .ok (.return_, 1) := by decide +kernel
theorem e_X1_putEnd {X : gk_X} {F : Nat} {S : gk_S} {p0 : Nat} {r : (Unit × gk_S)} (h0 : f_X1_putEnd F S p0 = some r) : EvM X m_X1_putEnd 2 0 0 [.ref p0] S (qRU r) := by
  unfold f_X1_putEnd at h0
  refine ev_method (by decide +kernel) rfl rfl (Nat.le_of_ble_eq_true rfl) ?_
  show EvW X m_X1_putEnd 2 0 0 0 [some (.ref p0)] [] S _
  refine ev_aload_n (pc := 0) (i := 0) rfl rfl rfl dX1_putEnd_0 ?_
  refine ev_bipush (pc := 1) (v := 59) (by decide) dX1_putEnd_1 ?_
  obtain ⟨g1, h2⟩ := qk_el h0; clear h0
  obtain ⟨x3, S4, e5, h6⟩ := qc_el h2; clear h2
  refine xv_callV (pc := 3) (st := []) (as := [.int 59]) (v := none) (S' := S4) ok_X2_add (e_X2_add e5) (isb_el g1) (by decide) rfl (Nat.le_of_ble_eq_true rfl) rfl gw_727 dX1_putEnd_3 ?_
  refine ev_aload_n (pc := 6) (i := 0) rfl rfl rfl dX1_putEnd_6 ?_
  refine ev_bipush (pc := 7) (v := 10) (by decide) dX1_putEnd_7 ?_
  obtain ⟨g7, h8⟩ := qk_el h6; clear h6
  obtain ⟨x9, S10, e11, h12⟩ := qc_el h8; clear h8
  refine xv_callV (pc := 9) (st := []) (as := [.int 10]) (v := none) (S' := S10) ok_X2_add (e_X2_add e11) (isb_el g7) (by decide) rfl (Nat.le_of_ble_eq_true rfl) rfl gw_727 dX1_putEnd_9 ?_
  exact ev_return (pc := 12) rfl (qRU_eq h12) dX1_putEnd_12
theorem dX1_putStates_0 : decode cX1_putStates 0 = .ok (.iconst 1, 1) := by decide +kernel
theorem dX1_putStates_1 : decode cX1_putStates 1 = .ok (.istore_n 2, 1) := by decide +kernel
theorem dX1_putStates_2 : decode cX1_putStates 2 = .ok (.iconst 0, 1) := by decide +kernel
theorem dX1_putStates_3 : decode cX1_putStates 3 = .ok (.istore_n 3, 1) := by decide +kernel
theorem dX1_putStates_4 : decode cX1_putStates 4 = .ok (.iload_n 3, 1) := by decide +kernel
theorem dX1_putStates_5 : decode cX1_putStates 5 = .ok (.iconst 4, 1) := by decide +kernel
theorem dX1_putStates_6 : decode cX1_putStates 6 = .ok (.if_icmp .ge 37, 3) := by decide +kernel
theorem dX1_putStates_9 : decode cX1_putStates 9 = .ok (.aload_n 0, 1) := by decide +kernel
theorem dX1_putStates_10 : decode cX1_putStates 10 = .ok (.iload_n 3, 1) := by decide +kernel
theorem dX1_putStates_11 : decode cX1_putStates 11 = .ok (.invokevirtual 83, 3) := by decide +kernel
theorem dX1_putStates_14 : decode cX1_putStates 14 = .ok (.ifCond .eq 23, 3) := by decide +kernel
theorem dX1_putStates_17 : decode cX1_putStates 17 = .ok (.iload_n 2, 1) := by decide +kernel
theorem dX1_putStates_18 : decode cX1_putStates 18 = .ok (.ifCond .ne 9, 3) := by decide +kernel
theorem dX1_putStates_21 : decode cX1_putStates 21 = .ok (.aload_n 1, 1) := by decide +kernel
theorem dX1_putStates_22 : decode cX1_putStates 22 = .ok (.bipush 44, 2) := by decide +kernel
theorem dX1_putStates_24 : decode cX1_putStates 24 = .ok (.invokevirtual 53, 3) := by decide +kernel
theorem dX1_putStates_27 : decode cX1_putStates 27 = .ok (.aload_n 1, 1) := by decide +kernel
theorem dX1_putStates_28 : decode cX1_putStates 28 = .ok (.iload_n 3, 1) := by decide +kernel
theorem dX1_putStates_29 : decode cX1_putStates 29 = .ok (.invokestatic 86, 3) := by decide +kernel
theorem dX1_putStates_32 : decode cX1_putStates 32 = .ok (.invokevirtual 11, 3) := by decide +kernel
theorem dX1_putStates_35 : decode cX1_putStates 35 = .ok (.iconst 0, 1) := by decide +kernel
theorem dX1_putStates_36 : decode cX1_putStates 36 = .ok (.istore_n 2, 1) := by decide +kernel
theorem dX1_putStates_37 : decode cX1_putStates 37 = .ok (.iinc 3 1, 3) := by decide +kernel
theorem dX1_putStates_40 : decode cX1_putStates 40 = .ok (.goto (-36), 3) := by decide +kernel
theorem dX1_putStates_43 : decode cX1_putStates 43 = .ok (.return_, 1) := by decide +kernel
theorem e_X1_putStates_27 {X : gk_X} {F : Nat} {k4 : Nat → Nat → Int32 → Int32 → gk_S → Option (Unit × gk_S)} (hk4 : ∀ (l0 : Nat) (l1 : Nat) (l2 : Int32) (l3 : Int32) (S : gk_S) (r : (Unit × gk_S)), k4 l0 l1 l2 l3 S = some r → EvW X m_X1_putStates 6 0 0 4 [some (.ref l0), some (.ref l1), some (.int l2), some (.int l3)] [] S (qRU r)) {l0 : Nat} {l1 : Nat} {l3 : Int32} {S : gk_S} {r : (Unit × gk_S)} (h0 : f_X1_putStates_27 F k4 l0 l1 l3 S = some r) : EvW X m_X1_putStates 6 0 0 27 [some (.ref l0), some (.ref l1), none, some (.int l3)] [] S (qRU r) := by
  unfold f_X1_putStates_27 at h0
  refine ev_aload_n (pc := 27) (i := 1) rfl rfl rfl dX1_putStates_27 ?_
  refine ev_iload_n (pc := 28) (i := 3) rfl rfl dX1_putStates_28 ?_
  obtain ⟨x13, S14, e15, h16⟩ := qc_el h0; clear h0
  refine xv_callSN (pc := 29) (st := [.ref l1]) (as := [.int l3]) (v := (some (.retAddr (10 + x13)))) (S' := S14) (host := "GateHouse") ok_X11_stateWord (e_X11_stateWord e15) (by decide) rfl (Nat.le_of_ble_eq_true rfl) rfl (by decide +kernel) dX1_putStates_29 ?_
  obtain ⟨g17, h18⟩ := qk_el h16; clear h16
  obtain ⟨x19, S20, e21, h22⟩ := qc_el h18; clear h18
  refine xv_callV (pc := 32) (st := []) (as := [.retAddr (10 + x13)]) (v := none) (S' := S20) ok_X2_addText (e_X2_addText e21) (isb_el g17) (by decide) rfl (Nat.le_of_ble_eq_true rfl) rfl gw_717 dX1_putStates_32 ?_
  refine ev_iconst (pc := 35) (v := 0) (by decide) dX1_putStates_35 ?_
  refine ev_istore_n (pc := 36) (L' := [some (.ref l0), some (.ref l1), some (.int 0), some (.int l3)]) (i := 2) rfl (by decide) rfl rfl dX1_putStates_36 ?_
  refine ev_iinc (pc := 37) (L' := [some (.ref l0), some (.ref l1), some (.int 0), some (.int (l3 + 1))]) (i := 3) (v := (l3 + 1)) rfl rfl (by decide) rfl rfl dX1_putStates_37 ?_
  refine ev_goto (pc := 40) (tgt := 4) (by decide) dX1_putStates_40 ?_
  exact ev_weak (qL_s (qL_s (qL_s (qL_s qL_nil)))) (hk4 _ _ _ _ _ _ h22)
theorem e_X1_putStates_4 {X : gk_X} {F : Nat} : ∀ (n : Nat) (l0 : Nat) (l1 : Nat) (l2 : Int32) (l3 : Int32) (S : gk_S) (r : (Unit × gk_S)), f_X1_putStates_4 F n l0 l1 l2 l3 S = some r → EvW X m_X1_putStates 6 0 0 4 [some (.ref l0), some (.ref l1), some (.int l2), some (.int l3)] [] S (qRU r) := by
  intro n
  induction n with
  | zero => intro l0 l1 l2 l3 S r h0; rw [f_X1_putStates_4] at h0; cases h0
  | succ n ih =>
    intro l0 l1 l2 l3 S r h0; rw [f_X1_putStates_4] at h0
    refine ev_iload_n (pc := 4) (i := 3) rfl rfl dX1_putStates_4 ?_
    refine ev_iconst (pc := 5) (v := 4) (by decide) dX1_putStates_5 ?_
    refine ev_ic_ge (pc := 6) (tgt := 43) (by decide) dX1_putStates_6 (fun c1 => ?_) (fun c1 => ?_)
    · replace h0 := qi_t h0 c1
      exact ev_return (pc := 43) rfl (qRU_eq h0) dX1_putStates_43
    · replace h0 := qi_f h0 c1
      refine ev_aload_n (pc := 9) (i := 0) rfl rfl rfl dX1_putStates_9 ?_
      refine ev_iload_n (pc := 10) (i := 3) rfl rfl dX1_putStates_10 ?_
      obtain ⟨g3, h4⟩ := qk_el h0; clear h0
      obtain ⟨x5, S6, e7, h8⟩ := qc_el h4; clear h4
      refine xv_callV (pc := 11) (st := []) (as := [.int l3]) (v := (some (.int x5))) (S' := S6) ok_X5_hasState (e_X5_hasState e7) (isb_el g3) (by decide) rfl (Nat.le_of_ble_eq_true rfl) rfl gw_743 dX1_putStates_11 ?_
      refine ev_if_eq (pc := 14) (tgt := 37) (by decide) dX1_putStates_14 (fun c9 => ?_) (fun c9 => ?_)
      · replace h8 := qi_t h8 c9
        refine ev_iinc (pc := 37) (L' := [some (.ref l0), some (.ref l1), some (.int l2), some (.int (l3 + 1))]) (i := 3) (v := (l3 + 1)) rfl rfl (by decide) rfl rfl dX1_putStates_37 ?_
        refine ev_goto (pc := 40) (tgt := 4) (by decide) dX1_putStates_40 ?_
        exact (ev_weak (qL_s (qL_s (qL_s (qL_s qL_nil)))) (ih _ _ _ _ _ _ h8))
      · replace h8 := qi_f h8 c9
        refine ev_iload_n (pc := 17) (i := 2) rfl rfl dX1_putStates_17 ?_
        refine ev_if_ne (pc := 18) (tgt := 27) (by decide) dX1_putStates_18 (fun c11 => ?_) (fun c11 => ?_)
        · replace h8 := qi_f h8 c11
          exact ev_weak (qL_s (qL_s (qL_n (qL_s qL_nil)))) (e_X1_putStates_27 ih h8)
        · replace h8 := qi_t h8 c11
          refine ev_aload_n (pc := 21) (i := 1) rfl rfl rfl dX1_putStates_21 ?_
          refine ev_bipush (pc := 22) (v := 44) (by decide) dX1_putStates_22 ?_
          obtain ⟨g23, h24⟩ := qk_el h8; clear h8
          obtain ⟨x25, S26, e27, h28⟩ := qc_el h24; clear h24
          refine xv_callV (pc := 24) (st := []) (as := [.int 44]) (v := none) (S' := S26) ok_X2_add (e_X2_add e27) (isb_el g23) (by decide) rfl (Nat.le_of_ble_eq_true rfl) rfl gw_727 dX1_putStates_24 ?_
          exact ev_weak (qL_s (qL_s (qL_n (qL_s qL_nil)))) (e_X1_putStates_27 ih h28)
theorem e_X1_putStates {X : gk_X} {F : Nat} {S : gk_S} {p0 : Nat} {p1 : Nat} {r : (Unit × gk_S)} (h0 : f_X1_putStates F S p0 p1 = some r) : EvM X m_X1_putStates 6 0 0 [.ref p0, .ref p1] S (qRU r) := by
  unfold f_X1_putStates at h0
  refine ev_method (by decide +kernel) rfl rfl (Nat.le_of_ble_eq_true rfl) ?_
  show EvW X m_X1_putStates 6 0 0 0 [some (.ref p0), some (.ref p1), none, none] [] S _
  refine ev_iconst (pc := 0) (v := 1) (by decide) dX1_putStates_0 ?_
  refine ev_istore_n (pc := 1) (L' := [some (.ref p0), some (.ref p1), some (.int 1), none]) (i := 2) rfl (by decide) rfl rfl dX1_putStates_1 ?_
  refine ev_iconst (pc := 2) (v := 0) (by decide) dX1_putStates_2 ?_
  refine ev_istore_n (pc := 3) (L' := [some (.ref p0), some (.ref p1), some (.int 1), some (.int 0)]) (i := 3) rfl (by decide) rfl rfl dX1_putStates_3 ?_
  exact ev_weak (qL_s (qL_s (qL_s (qL_s qL_nil)))) (e_X1_putStates_4 F _ _ _ _ _ _ h0)
