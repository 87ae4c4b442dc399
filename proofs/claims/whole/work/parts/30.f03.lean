theorem dX0_sideOf_0 : decode cX0_sideOf 0 = .ok (.aload_n 1, 1) := by decide +kernel
theorem dX0_sideOf_1 : decode cX0_sideOf 1 = .ok (.aload_n 0, 1) := by decide +kernel
theorem dX0_sideOf_2 : decode cX0_sideOf 2 = .ok (.getfield 9, 3) := by decide +kernel
theorem dX0_sideOf_5 : decode cX0_sideOf 5 = .ok (.invokevirtual 49, 3) := by decide +kernel
theorem dX0_sideOf_8 : decode cX0_sideOf 8 = .ok (.ifCond .ne 5, 3) := by decide +kernel
theorem dX0_sideOf_11 : decode cX0_sideOf 11 = .ok (.iconst 0, 1) := by decide +kernel
theorem dX0_sideOf_12 : decode cX0_sideOf 12 = .ok (.ireturn, 1) := by decide +kernel
theorem dX0_sideOf_13 : decode cX0_sideOf 13 = .ok (.aload_n 1, 1) := by decide +kernel
theorem dX0_sideOf_14 : decode cX0_sideOf 14 = .ok (.getfield 41, 3) := by decide +kernel
theorem dX0_sideOf_17 : decode cX0_sideOf 17 = .ok (.iconst 2, 1) := by decide +kernel
theorem dX0_sideOf_18 : decode cX0_sideOf 18 = .ok (.laload, 1) := by decide +kernel
theorem dX0_sideOf_19 : decode cX0_sideOf 19 = .ok (.aload_n 0, 1) := by decide +kernel
theorem dX0_sideOf_20 : decode cX0_sideOf 20 = .ok (.getfield 15, 3) := by decide +kernel
theorem dX0_sideOf_23 : decode cX0_sideOf 23 = .ok (.lcmp, 1) := by decide +kernel
theorem dX0_sideOf_24 : decode cX0_sideOf 24 = .ok (.ifCond .ne 21, 3) := by decide +kernel
theorem dX0_sideOf_27 : decode cX0_sideOf 27 = .ok (.aload_n 1, 1) := by decide +kernel
theorem dX0_sideOf_28 : decode cX0_sideOf 28 = .ok (.getfield 41, 3) := by decide +kernel
theorem dX0_sideOf_31 : decode cX0_sideOf 31 = .ok (.iconst 3, 1) := by decide +kernel
theorem dX0_sideOf_32 : decode cX0_sideOf 32 = .ok (.laload, 1) := by decide +kernel
theorem dX0_sideOf_33 : decode cX0_sideOf 33 = .ok (.aload_n 0, 1) := by decide +kernel
theorem dX0_sideOf_34 : decode cX0_sideOf 34 = .ok (.getfield 19, 3) := by decide +kernel
theorem dX0_sideOf_37 : decode cX0_sideOf 37 = .ok (.lcmp, 1) := by decide +kernel
theorem dX0_sideOf_38 : decode cX0_sideOf 38 = .ok (.ifCond .ne 7, 3) := by decide +kernel
theorem dX0_sideOf_41 : decode cX0_sideOf 41 = .ok (.iconst 1, 1) := by decide +kernel
theorem dX0_sideOf_42 : decode cX0_sideOf 42 = .ok (.goto 4, 3) := by decide +kernel
theorem dX0_sideOf_45 : decode cX0_sideOf 45 = .ok (.iconst 0, 1) := by decide +kernel
theorem dX0_sideOf_46 : decode cX0_sideOf 46 = .ok (.istore_n 2, 1) := by decide +kernel
theorem dX0_sideOf_47 : decode cX0_sideOf 47 = .ok (.aload_n 1, 1) := by decide +kernel
theorem dX0_sideOf_48 : decode cX0_sideOf 48 = .ok (.getfield 41, 3) := by decide +kernel
theorem dX0_sideOf_51 : decode cX0_sideOf 51 = .ok (.iconst 2, 1) := by decide +kernel
theorem dX0_sideOf_52 : decode cX0_sideOf 52 = .ok (.laload, 1) := by decide +kernel
theorem dX0_sideOf_53 : decode cX0_sideOf 53 = .ok (.aload_n 0, 1) := by decide +kernel
theorem dX0_sideOf_54 : decode cX0_sideOf 54 = .ok (.getfield 19, 3) := by decide +kernel
theorem dX0_sideOf_57 : decode cX0_sideOf 57 = .ok (.lcmp, 1) := by decide +kernel
theorem dX0_sideOf_58 : decode cX0_sideOf 58 = .ok (.ifCond .ne 21, 3) := by decide +kernel
theorem dX0_sideOf_61 : decode cX0_sideOf 61 = .ok (.aload_n 1, 1) := by decide +kernel
theorem dX0_sideOf_62 : decode cX0_sideOf 62 = .ok (.getfield 41, 3) := by decide +kernel
theorem dX0_sideOf_65 : decode cX0_sideOf 65 = .ok (.iconst 3, 1) := by decide +kernel
theorem dX0_sideOf_66 : decode cX0_sideOf 66 = .ok (.laload, 1) := by decide +kernel
theorem dX0_sideOf_67 : decode cX0_sideOf 67 = .ok (.aload_n 0, 1) := by decide +kernel
theorem dX0_sideOf_68 : decode cX0_sideOf 68 = .ok (.getfield 15, 3) := by decide +kernel
theorem dX0_sideOf_71 : decode cX0_sideOf 71 = .ok (.lcmp, 1) := by decide +kernel
theorem dX0_sideOf_72 : decode cX0_sideOf 72 = .ok (.ifCond .ne 7, 3) := by decide +kernel
theorem dX0_sideOf_75 : decode cX0_sideOf 75 = .ok (.iconst 1, 1) := by decide +kernel
theorem dX0_sideOf_76 : decode cX0_sideOf 76 = .ok (.goto 4, 3) := by decide +kernel
theorem dX0_sideOf_79 : decode cX0_sideOf 79 = .ok (.iconst 0, 1) := by decide +kernel
theorem dX0_sideOf_80 : decode cX0_sideOf 80 = .ok (.istore_n 3, 1) := by decide +kernel
theorem dX0_sideOf_81 : decode cX0_sideOf 81 = .ok (.aload_n 0, 1) := by decide +kernel
theorem dX0_sideOf_82 : decode cX0_sideOf 82 = .ok (.getfield 9, 3) := by decide +kernel
theorem dX0_sideOf_85 : decode cX0_sideOf 85 = .ok (.iconst 1, 1) := by decide +kernel
theorem dX0_sideOf_86 : decode cX0_sideOf 86 = .ok (.if_icmp .ne 70, 3) := by decide +kernel
theorem dX0_sideOf_89 : decode cX0_sideOf 89 = .ok (.iload_n 2, 1) := by decide +kernel
theorem dX0_sideOf_90 : decode cX0_sideOf 90 = .ok (.ifCond .eq 30, 3) := by decide +kernel
theorem dX0_sideOf_93 : decode cX0_sideOf 93 = .ok (.aload_n 1, 1) := by decide +kernel
theorem dX0_sideOf_94 : decode cX0_sideOf 94 = .ok (.invokevirtual 53, 3) := by decide +kernel
theorem dX0_sideOf_97 : decode cX0_sideOf 97 = .ok (.bipush 8, 2) := by decide +kernel
theorem dX0_sideOf_99 : decode cX0_sideOf 99 = .ok (.if_icmp .ne 21, 3) := by decide +kernel
theorem dX0_sideOf_102 : decode cX0_sideOf 102 = .ok (.aload_n 1, 1) := by decide +kernel
theorem dX0_sideOf_103 : decode cX0_sideOf 103 = .ok (.getfield 41, 3) := by decide +kernel
theorem dX0_sideOf_106 : decode cX0_sideOf 106 = .ok (.iconst 5, 1) := by decide +kernel
theorem dX0_sideOf_107 : decode cX0_sideOf 107 = .ok (.laload, 1) := by decide +kernel
theorem dX0_sideOf_108 : decode cX0_sideOf 108 = .ok (.aload_n 0, 1) := by decide +kernel
theorem dX0_sideOf_109 : decode cX0_sideOf 109 = .ok (.getfield 25, 3) := by decide +kernel
theorem dX0_sideOf_112 : decode cX0_sideOf 112 = .ok (.lcmp, 1) := by decide +kernel
theorem dX0_sideOf_113 : decode cX0_sideOf 113 = .ok (.ifCond .ne 7, 3) := by decide +kernel
theorem dX0_sideOf_116 : decode cX0_sideOf 116 = .ok (.iconst 1, 1) := by decide +kernel
theorem dX0_sideOf_117 : decode cX0_sideOf 117 = .ok (.goto 4, 3) := by decide +kernel
theorem dX0_sideOf_120 : decode cX0_sideOf 120 = .ok (.iconst 0, 1) := by decide +kernel
theorem dX0_sideOf_121 : decode cX0_sideOf 121 = .ok (.istore_n 2, 1) := by decide +kernel
theorem dX0_sideOf_122 : decode cX0_sideOf 122 = .ok (.iload_n 3, 1) := by decide +kernel
theorem dX0_sideOf_123 : decode cX0_sideOf 123 = .ok (.ifCond .eq 28, 3) := by decide +kernel
theorem dX0_sideOf_126 : decode cX0_sideOf 126 = .ok (.aload_n 1, 1) := by decide +kernel
theorem dX0_sideOf_127 : decode cX0_sideOf 127 = .ok (.invokevirtual 53, 3) := by decide +kernel
theorem dX0_sideOf_130 : decode cX0_sideOf 130 = .ok (.ifCond .ne 21, 3) := by decide +kernel
theorem dX0_sideOf_133 : decode cX0_sideOf 133 = .ok (.aload_n 1, 1) := by decide +kernel
theorem dX0_sideOf_134 : decode cX0_sideOf 134 = .ok (.getfield 41, 3) := by decide +kernel
theorem dX0_sideOf_137 : decode cX0_sideOf 137 = .ok (.iconst 5, 1) := by decide +kernel
theorem dX0_sideOf_138 : decode cX0_sideOf 138 = .ok (.laload, 1) := by decide +kernel
theorem dX0_sideOf_139 : decode cX0_sideOf 139 = .ok (.aload_n 0, 1) := by decide +kernel
theorem dX0_sideOf_140 : decode cX0_sideOf 140 = .ok (.getfield 25, 3) := by decide +kernel
theorem dX0_sideOf_143 : decode cX0_sideOf 143 = .ok (.lcmp, 1) := by decide +kernel
theorem dX0_sideOf_144 : decode cX0_sideOf 144 = .ok (.ifCond .ne 7, 3) := by decide +kernel
theorem dX0_sideOf_147 : decode cX0_sideOf 147 = .ok (.iconst 1, 1) := by decide +kernel
theorem dX0_sideOf_148 : decode cX0_sideOf 148 = .ok (.goto 4, 3) := by decide +kernel
theorem dX0_sideOf_151 : decode cX0_sideOf 151 = .ok (.iconst 0, 1) := by decide +kernel
theorem dX0_sideOf_152 : decode cX0_sideOf 152 = .ok (.istore_n 3, 1) := by decide +kernel
theorem dX0_sideOf_153 : decode cX0_sideOf 153 = .ok (.goto 79, 3) := by decide +kernel
theorem dX0_sideOf_156 : decode cX0_sideOf 156 = .ok (.iload_n 2, 1) := by decide +kernel
theorem dX0_sideOf_157 : decode cX0_sideOf 157 = .ok (.ifCond .eq 35, 3) := by decide +kernel
theorem dX0_sideOf_160 : decode cX0_sideOf 160 = .ok (.aload_n 1, 1) := by decide +kernel
theorem dX0_sideOf_161 : decode cX0_sideOf 161 = .ok (.getfield 41, 3) := by decide +kernel
theorem dX0_sideOf_164 : decode cX0_sideOf 164 = .ok (.iconst 4, 1) := by decide +kernel
theorem dX0_sideOf_165 : decode cX0_sideOf 165 = .ok (.laload, 1) := by decide +kernel
theorem dX0_sideOf_166 : decode cX0_sideOf 166 = .ok (.aload_n 0, 1) := by decide +kernel
theorem dX0_sideOf_167 : decode cX0_sideOf 167 = .ok (.getfield 22, 3) := by decide +kernel
theorem dX0_sideOf_170 : decode cX0_sideOf 170 = .ok (.lcmp, 1) := by decide +kernel
theorem dX0_sideOf_171 : decode cX0_sideOf 171 = .ok (.ifCond .ne 21, 3) := by decide +kernel
theorem dX0_sideOf_174 : decode cX0_sideOf 174 = .ok (.aload_n 1, 1) := by decide +kernel
theorem dX0_sideOf_175 : decode cX0_sideOf 175 = .ok (.getfield 41, 3) := by decide +kernel
theorem dX0_sideOf_178 : decode cX0_sideOf 178 = .ok (.iconst 5, 1) := by decide +kernel
theorem dX0_sideOf_179 : decode cX0_sideOf 179 = .ok (.laload, 1) := by decide +kernel
theorem dX0_sideOf_180 : decode cX0_sideOf 180 = .ok (.aload_n 0, 1) := by decide +kernel
theorem dX0_sideOf_181 : decode cX0_sideOf 181 = .ok (.getfield 25, 3) := by decide +kernel
theorem dX0_sideOf_184 : decode cX0_sideOf 184 = .ok (.lcmp, 1) := by decide +kernel
theorem dX0_sideOf_185 : decode cX0_sideOf 185 = .ok (.ifCond .ne 7, 3) := by decide +kernel
theorem dX0_sideOf_188 : decode cX0_sideOf 188 = .ok (.iconst 1, 1) := by decide +kernel
theorem dX0_sideOf_189 : decode cX0_sideOf 189 = .ok (.goto 4, 3) := by decide +kernel
theorem dX0_sideOf_192 : decode cX0_sideOf 192 = .ok (.iconst 0, 1) := by decide +kernel
theorem dX0_sideOf_193 : decode cX0_sideOf 193 = .ok (.istore_n 2, 1) := by decide +kernel
theorem dX0_sideOf_194 : decode cX0_sideOf 194 = .ok (.iload_n 3, 1) := by decide +kernel
theorem dX0_sideOf_195 : decode cX0_sideOf 195 = .ok (.ifCond .eq 35, 3) := by decide +kernel
theorem dX0_sideOf_198 : decode cX0_sideOf 198 = .ok (.aload_n 1, 1) := by decide +kernel
theorem dX0_sideOf_199 : decode cX0_sideOf 199 = .ok (.getfield 41, 3) := by decide +kernel
theorem dX0_sideOf_202 : decode cX0_sideOf 202 = .ok (.iconst 4, 1) := by decide +kernel
theorem dX0_sideOf_203 : decode cX0_sideOf 203 = .ok (.laload, 1) := by decide +kernel
theorem dX0_sideOf_204 : decode cX0_sideOf 204 = .ok (.aload_n 0, 1) := by decide +kernel
theorem dX0_sideOf_205 : decode cX0_sideOf 205 = .ok (.getfield 25, 3) := by decide +kernel
theorem dX0_sideOf_208 : decode cX0_sideOf 208 = .ok (.lcmp, 1) := by decide +kernel
theorem dX0_sideOf_209 : decode cX0_sideOf 209 = .ok (.ifCond .ne 21, 3) := by decide +kernel
theorem dX0_sideOf_212 : decode cX0_sideOf 212 = .ok (.aload_n 1, 1) := by decide +kernel
theorem dX0_sideOf_213 : decode cX0_sideOf 213 = .ok (.getfield 41, 3) := by decide +kernel
theorem dX0_sideOf_216 : decode cX0_sideOf 216 = .ok (.iconst 5, 1) := by decide +kernel
theorem dX0_sideOf_217 : decode cX0_sideOf 217 = .ok (.laload, 1) := by decide +kernel
theorem dX0_sideOf_218 : decode cX0_sideOf 218 = .ok (.aload_n 0, 1) := by decide +kernel
theorem dX0_sideOf_219 : decode cX0_sideOf 219 = .ok (.getfield 22, 3) := by decide +kernel
theorem dX0_sideOf_222 : decode cX0_sideOf 222 = .ok (.lcmp, 1) := by decide +kernel
theorem dX0_sideOf_223 : decode cX0_sideOf 223 = .ok (.ifCond .ne 7, 3) := by decide +kernel
theorem dX0_sideOf_226 : decode cX0_sideOf 226 = .ok (.iconst 1, 1) := by decide +kernel
theorem dX0_sideOf_227 : decode cX0_sideOf 227 = .ok (.goto 4, 3) := by decide +kernel
theorem dX0_sideOf_230 : decode cX0_sideOf 230 = .ok (.iconst 0, 1) := by decide +kernel
theorem dX0_sideOf_231 : decode cX0_sideOf 231 = .ok (.istore_n 3, 1) := by decide +kernel
theorem dX0_sideOf_232 : decode cX0_sideOf 232 = .ok (.iload_n 2, 1) := by decide +kernel
theorem dX0_sideOf_233 : decode cX0_sideOf 233 = .ok (.ifCond .eq 7, 3) := by decide +kernel
theorem dX0_sideOf_236 : decode cX0_sideOf 236 = .ok (.iconst 1, 1) := by decide +kernel
theorem dX0_sideOf_237 : decode cX0_sideOf 237 = .ok (.goto 12, 3) := by decide +kernel
theorem dX0_sideOf_240 : decode cX0_sideOf 240 = .ok (.iload_n 3, 1) := by decide +kernel
theorem dX0_sideOf_241 : decode cX0_sideOf 241 = .ok (.ifCond .eq 7, 3) := by decide +kernel
theorem dX0_sideOf_244 : decode cX0_sideOf 244 = .ok (.iconst 2, 1) := by decide +kernel
theorem dX0_sideOf_245 : decode cX0_sideOf 245 = .ok (.goto 4, 3) := by decide +kernel
theorem dX0_sideOf_248 : decode cX0_sideOf 248 = .ok (.iconst 0, 1) := by decide +kernel
theorem dX0_sideOf_249 : decode cX0_sideOf 249 = .ok (.ireturn, 1) := by decide +kernel
theorem e_X0_sideOf_232 {X : gk_X} {F : Nat} {l2 : Int32} {l3 : Int32} {S : gk_S} {r : (Int32 × gk_S)} (h0 : f_X0_sideOf_232 F l2 l3 S = some r) : EvW X m_X0_sideOf 2 0 0 232 [none, none, some (.int l2), some (.int l3)] [] S (qRI r) := by
  unfold f_X0_sideOf_232 at h0
  refine ev_iload_n (pc := 232) (i := 2) rfl rfl dX0_sideOf_232 ?_
  refine ev_if_eq (pc := 233) (tgt := 240) (by decide) dX0_sideOf_233 (fun c63 => ?_) (fun c63 => ?_)
  · replace h0 := qi_t h0 c63
    refine ev_iload_n (pc := 240) (i := 3) rfl rfl dX0_sideOf_240 ?_
    refine ev_if_eq (pc := 241) (tgt := 248) (by decide) dX0_sideOf_241 (fun c65 => ?_) (fun c65 => ?_)
    · replace h0 := qi_t h0 c65
      refine ev_iconst (pc := 248) (v := 0) (by decide) dX0_sideOf_248 ?_
      exact ev_ireturn (pc := 249) rfl (nar_int _) (qRI_eq h0) dX0_sideOf_249
    · replace h0 := qi_f h0 c65
      refine ev_iconst (pc := 244) (v := 2) (by decide) dX0_sideOf_244 ?_
      refine ev_goto (pc := 245) (tgt := 249) (by decide) dX0_sideOf_245 ?_
      exact ev_ireturn (pc := 249) rfl (nar_int _) (qRI_eq h0) dX0_sideOf_249
  · replace h0 := qi_f h0 c63
    refine ev_iconst (pc := 236) (v := 1) (by decide) dX0_sideOf_236 ?_
    refine ev_goto (pc := 237) (tgt := 249) (by decide) dX0_sideOf_237 ?_
    exact ev_ireturn (pc := 249) rfl (nar_int _) (qRI_eq h0) dX0_sideOf_249
theorem e_X0_sideOf_193 {X : gk_X} {F : Nat} {l0 : Nat} {l1 : Nat} {l3 : Int32} {s0 : Int32} {S : gk_S} {r : (Int32 × gk_S)} (h0 : f_X0_sideOf_193 F l0 l1 l3 s0 S = some r) : EvW X m_X0_sideOf 2 0 0 193 [some (.ref l0), some (.ref l1), none, some (.int l3)] [.int s0] S (qRI r) := by
  unfold f_X0_sideOf_193 at h0
  refine ev_istore_n (pc := 193) (L' := [some (.ref l0), some (.ref l1), some (.int s0), some (.int l3)]) (i := 2) rfl (by decide) rfl rfl dX0_sideOf_193 ?_
  refine ev_iload_n (pc := 194) (i := 3) rfl rfl dX0_sideOf_194 ?_
  refine ev_if_eq (pc := 195) (tgt := 230) (by decide) dX0_sideOf_195 (fun c61 => ?_) (fun c61 => ?_)
  · replace h0 := qi_t h0 c61
    refine ev_iconst (pc := 230) (v := 0) (by decide) dX0_sideOf_230 ?_
    refine ev_istore_n (pc := 231) (L' := [some (.ref l0), some (.ref l1), some (.int s0), some (.int 0)]) (i := 3) rfl (by decide) rfl rfl dX0_sideOf_231 ?_
    exact ev_weak (qL_n (qL_n (qL_s (qL_s qL_nil)))) (e_X0_sideOf_232 h0)
  · replace h0 := qi_f h0 c61
    refine ev_aload_n (pc := 198) (i := 1) rfl rfl rfl dX0_sideOf_198 ?_
    obtain ⟨g67, h68⟩ := qk_el h0; clear h0
    obtain ⟨b69, e70, h71⟩ := qP_el h68; clear h68
    refine xv_getP (pc := 199) fn_200 (isb_el g67) e70 gw_268 dX0_sideOf_199 ?_
    refine ev_iconst (pc := 202) (v := 4) (by decide) dX0_sideOf_202 ?_
    obtain ⟨g72, h73⟩ := qk_el h71; clear h71
    obtain ⟨g74, h75⟩ := qk_el h73; clear h73
    obtain ⟨x76, e77, h78⟩ := qv_el h75; clear h75
    refine yv_lald (pc := 203) (isb_el g72) (inb_el g74) e77 dX0_sideOf_203 ?_
    refine ev_aload_n (pc := 204) (i := 0) rfl rfl rfl dX0_sideOf_204 ?_
    obtain ⟨g79, h80⟩ := qk_el h78; clear h78
    obtain ⟨x81, e82, h83⟩ := qv_el h80; clear h80
    refine xv_getJv (pc := 205) fn_4 (isb_el g79) e82 gw_211 dX0_sideOf_205 ?_
    refine ev_lcmp (pc := 208)  dX0_sideOf_208 ?_
    refine ev_if_ne (pc := 209) (tgt := 230) (by decide) dX0_sideOf_209 (fun c84 => ?_) (fun c84 => ?_)
    · replace h83 := qi_f h83 (lc_eqN c84)
      refine ev_iconst (pc := 230) (v := 0) (by decide) dX0_sideOf_230 ?_
      refine ev_istore_n (pc := 231) (L' := [some (.ref l0), some (.ref l1), some (.int s0), some (.int 0)]) (i := 3) rfl (by decide) rfl rfl dX0_sideOf_231 ?_
      exact ev_weak (qL_n (qL_n (qL_s (qL_s qL_nil)))) (e_X0_sideOf_232 h83)
    · replace h83 := qi_t h83 (lc_eq c84)
      refine ev_aload_n (pc := 212) (i := 1) rfl rfl rfl dX0_sideOf_212 ?_
      obtain ⟨b86, e87, h88⟩ := qP_el h83; clear h83
      refine xv_getP (pc := 213) fn_200 (isb_el g67) e87 gw_268 dX0_sideOf_213 ?_
      refine ev_iconst (pc := 216) (v := 5) (by decide) dX0_sideOf_216 ?_
      obtain ⟨g89, h90⟩ := qk_el h88; clear h88
      obtain ⟨g91, h92⟩ := qk_el h90; clear h90
      obtain ⟨x93, e94, h95⟩ := qv_el h92; clear h92
      refine yv_lald (pc := 217) (isb_el g89) (inb_el g91) e94 dX0_sideOf_217 ?_
      refine ev_aload_n (pc := 218) (i := 0) rfl rfl rfl dX0_sideOf_218 ?_
      obtain ⟨x96, e97, h98⟩ := qv_el h95; clear h95
      refine xv_getJv (pc := 219) fn_3 (isb_el g79) e97 gw_210 dX0_sideOf_219 ?_
      refine ev_lcmp (pc := 222)  dX0_sideOf_222 ?_
      refine ev_if_ne (pc := 223) (tgt := 230) (by decide) dX0_sideOf_223 (fun c99 => ?_) (fun c99 => ?_)
      · replace h98 := qi_f h98 (lc_eqN c99)
        refine ev_iconst (pc := 230) (v := 0) (by decide) dX0_sideOf_230 ?_
        refine ev_istore_n (pc := 231) (L' := [some (.ref l0), some (.ref l1), some (.int s0), some (.int 0)]) (i := 3) rfl (by decide) rfl rfl dX0_sideOf_231 ?_
        exact ev_weak (qL_n (qL_n (qL_s (qL_s qL_nil)))) (e_X0_sideOf_232 h98)
      · replace h98 := qi_t h98 (lc_eq c99)
        refine ev_iconst (pc := 226) (v := 1) (by decide) dX0_sideOf_226 ?_
        refine ev_goto (pc := 227) (tgt := 231) (by decide) dX0_sideOf_227 ?_
        refine ev_istore_n (pc := 231) (L' := [some (.ref l0), some (.ref l1), some (.int s0), some (.int 1)]) (i := 3) rfl (by decide) rfl rfl dX0_sideOf_231 ?_
        exact ev_weak (qL_n (qL_n (qL_s (qL_s qL_nil)))) (e_X0_sideOf_232 h98)
theorem e_X0_sideOf_121 {X : gk_X} {F : Nat} {l0 : Nat} {l1 : Nat} {l3 : Int32} {s0 : Int32} {S : gk_S} {r : (Int32 × gk_S)} (h0 : f_X0_sideOf_121 F l0 l1 l3 s0 S = some r) : EvW X m_X0_sideOf 2 0 0 121 [some (.ref l0), some (.ref l1), none, some (.int l3)] [.int s0] S (qRI r) := by
  unfold f_X0_sideOf_121 at h0
  refine ev_istore_n (pc := 121) (L' := [some (.ref l0), some (.ref l1), some (.int s0), some (.int l3)]) (i := 2) rfl (by decide) rfl rfl dX0_sideOf_121 ?_
  refine ev_iload_n (pc := 122) (i := 3) rfl rfl dX0_sideOf_122 ?_
  refine ev_if_eq (pc := 123) (tgt := 151) (by decide) dX0_sideOf_123 (fun c135 => ?_) (fun c135 => ?_)
  · replace h0 := qi_t h0 c135
    refine ev_iconst (pc := 151) (v := 0) (by decide) dX0_sideOf_151 ?_
    refine ev_istore_n (pc := 152) (L' := [some (.ref l0), some (.ref l1), some (.int s0), some (.int 0)]) (i := 3) rfl (by decide) rfl rfl dX0_sideOf_152 ?_
    refine ev_goto (pc := 153) (tgt := 232) (by decide) dX0_sideOf_153 ?_
    exact ev_weak (qL_n (qL_n (qL_s (qL_s qL_nil)))) (e_X0_sideOf_232 h0)
  · replace h0 := qi_f h0 c135
    refine ev_aload_n (pc := 126) (i := 1) rfl rfl rfl dX0_sideOf_126 ?_
    obtain ⟨g137, h138⟩ := qk_el h0; clear h0
    obtain ⟨x139, S140, e141, h142⟩ := qc_el h138; clear h138
    refine xv_callV (pc := 127) (st := []) (as := []) (v := (some (.int x139))) (S' := S140) ok_X3_icmpType (e_X3_icmpType e141) (isb_el g137) (by decide) rfl (Nat.le_of_ble_eq_true rfl) rfl gw_952 dX0_sideOf_127 ?_
    refine ev_if_ne (pc := 130) (tgt := 151) (by decide) dX0_sideOf_130 (fun c143 => ?_) (fun c143 => ?_)
    · replace h142 := qi_f h142 c143
      refine ev_iconst (pc := 151) (v := 0) (by decide) dX0_sideOf_151 ?_
      refine ev_istore_n (pc := 152) (L' := [some (.ref l0), some (.ref l1), some (.int s0), some (.int 0)]) (i := 3) rfl (by decide) rfl rfl dX0_sideOf_152 ?_
      refine ev_goto (pc := 153) (tgt := 232) (by decide) dX0_sideOf_153 ?_
      exact ev_weak (qL_n (qL_n (qL_s (qL_s qL_nil)))) (e_X0_sideOf_232 h142)
    · replace h142 := qi_t h142 c143
      refine ev_aload_n (pc := 133) (i := 1) rfl rfl rfl dX0_sideOf_133 ?_
      obtain ⟨g145, h146⟩ := qk_el h142; clear h142
      obtain ⟨b147, e148, h149⟩ := qP_el h146; clear h146
      refine xv_getP (pc := 134) fn_200 (isb_el g145) e148 gw_268 dX0_sideOf_134 ?_
      refine ev_iconst (pc := 137) (v := 5) (by decide) dX0_sideOf_137 ?_
      obtain ⟨g150, h151⟩ := qk_el h149; clear h149
      obtain ⟨g152, h153⟩ := qk_el h151; clear h151
      obtain ⟨x154, e155, h156⟩ := qv_el h153; clear h153
      refine yv_lald (pc := 138) (isb_el g150) (inb_el g152) e155 dX0_sideOf_138 ?_
      refine ev_aload_n (pc := 139) (i := 0) rfl rfl rfl dX0_sideOf_139 ?_
      obtain ⟨g157, h158⟩ := qk_el h156; clear h156
      obtain ⟨x159, e160, h161⟩ := qv_el h158; clear h158
      refine xv_getJv (pc := 140) fn_4 (isb_el g157) e160 gw_211 dX0_sideOf_140 ?_
      refine ev_lcmp (pc := 143)  dX0_sideOf_143 ?_
      refine ev_if_ne (pc := 144) (tgt := 151) (by decide) dX0_sideOf_144 (fun c162 => ?_) (fun c162 => ?_)
      · replace h161 := qi_f h161 (lc_eqN c162)
        refine ev_iconst (pc := 151) (v := 0) (by decide) dX0_sideOf_151 ?_
        refine ev_istore_n (pc := 152) (L' := [some (.ref l0), some (.ref l1), some (.int s0), some (.int 0)]) (i := 3) rfl (by decide) rfl rfl dX0_sideOf_152 ?_
        refine ev_goto (pc := 153) (tgt := 232) (by decide) dX0_sideOf_153 ?_
        exact ev_weak (qL_n (qL_n (qL_s (qL_s qL_nil)))) (e_X0_sideOf_232 h161)
      · replace h161 := qi_t h161 (lc_eq c162)
        refine ev_iconst (pc := 147) (v := 1) (by decide) dX0_sideOf_147 ?_
        refine ev_goto (pc := 148) (tgt := 152) (by decide) dX0_sideOf_148 ?_
        refine ev_istore_n (pc := 152) (L' := [some (.ref l0), some (.ref l1), some (.int s0), some (.int 1)]) (i := 3) rfl (by decide) rfl rfl dX0_sideOf_152 ?_
        refine ev_goto (pc := 153) (tgt := 232) (by decide) dX0_sideOf_153 ?_
        exact ev_weak (qL_n (qL_n (qL_s (qL_s qL_nil)))) (e_X0_sideOf_232 h161)
theorem e_X0_sideOf_80 {X : gk_X} {F : Nat} {l0 : Nat} {l1 : Nat} {l2 : Int32} {s0 : Int32} {S : gk_S} {r : (Int32 × gk_S)} (h0 : f_X0_sideOf_80 F l0 l1 l2 s0 S = some r) : EvW X m_X0_sideOf 2 0 0 80 [some (.ref l0), some (.ref l1), some (.int l2), none] [.int s0] S (qRI r) := by
  unfold f_X0_sideOf_80 at h0
  refine ev_istore_n (pc := 80) (L' := [some (.ref l0), some (.ref l1), some (.int l2), some (.int s0)]) (i := 3) rfl (by decide) rfl rfl dX0_sideOf_80 ?_
  refine ev_aload_n (pc := 81) (i := 0) rfl rfl rfl dX0_sideOf_81 ?_
  obtain ⟨g52, h53⟩ := qk_el h0; clear h0
  obtain ⟨x54, e55, h56⟩ := qv_el h53; clear h53
  refine xv_getIv (pc := 82) fn_0 (isb_el g52) e55 gw_207 dX0_sideOf_82 ?_
  refine ev_iconst (pc := 85) (v := 1) (by decide) dX0_sideOf_85 ?_
  refine ev_ic_ne (pc := 86) (tgt := 156) (by decide) dX0_sideOf_86 (fun c57 => ?_) (fun c57 => ?_)
  · replace h56 := qi_f h56 c57
    refine ev_iload_n (pc := 156) (i := 2) rfl rfl dX0_sideOf_156 ?_
    refine ev_if_eq (pc := 157) (tgt := 192) (by decide) dX0_sideOf_157 (fun c59 => ?_) (fun c59 => ?_)
    · replace h56 := qi_t h56 c59
      refine ev_iconst (pc := 192) (v := 0) (by decide) dX0_sideOf_192 ?_
      exact ev_weak (qL_s (qL_s (qL_n (qL_s qL_nil)))) (e_X0_sideOf_193 h56)
    · replace h56 := qi_f h56 c59
      refine ev_aload_n (pc := 160) (i := 1) rfl rfl rfl dX0_sideOf_160 ?_
      obtain ⟨g101, h102⟩ := qk_el h56; clear h56
      obtain ⟨b103, e104, h105⟩ := qP_el h102; clear h102
      refine xv_getP (pc := 161) fn_200 (isb_el g101) e104 gw_268 dX0_sideOf_161 ?_
      refine ev_iconst (pc := 164) (v := 4) (by decide) dX0_sideOf_164 ?_
      obtain ⟨g106, h107⟩ := qk_el h105; clear h105
      obtain ⟨g108, h109⟩ := qk_el h107; clear h107
      obtain ⟨x110, e111, h112⟩ := qv_el h109; clear h109
      refine yv_lald (pc := 165) (isb_el g106) (inb_el g108) e111 dX0_sideOf_165 ?_
      refine ev_aload_n (pc := 166) (i := 0) rfl rfl rfl dX0_sideOf_166 ?_
      obtain ⟨x113, e114, h115⟩ := qv_el h112; clear h112
      refine xv_getJv (pc := 167) fn_3 (isb_el g52) e114 gw_210 dX0_sideOf_167 ?_
      refine ev_lcmp (pc := 170)  dX0_sideOf_170 ?_
      refine ev_if_ne (pc := 171) (tgt := 192) (by decide) dX0_sideOf_171 (fun c116 => ?_) (fun c116 => ?_)
      · replace h115 := qi_f h115 (lc_eqN c116)
        refine ev_iconst (pc := 192) (v := 0) (by decide) dX0_sideOf_192 ?_
        exact ev_weak (qL_s (qL_s (qL_n (qL_s qL_nil)))) (e_X0_sideOf_193 h115)
      · replace h115 := qi_t h115 (lc_eq c116)
        refine ev_aload_n (pc := 174) (i := 1) rfl rfl rfl dX0_sideOf_174 ?_
        obtain ⟨b118, e119, h120⟩ := qP_el h115; clear h115
        refine xv_getP (pc := 175) fn_200 (isb_el g101) e119 gw_268 dX0_sideOf_175 ?_
        refine ev_iconst (pc := 178) (v := 5) (by decide) dX0_sideOf_178 ?_
        obtain ⟨g121, h122⟩ := qk_el h120; clear h120
        obtain ⟨g123, h124⟩ := qk_el h122; clear h122
        obtain ⟨x125, e126, h127⟩ := qv_el h124; clear h124
        refine yv_lald (pc := 179) (isb_el g121) (inb_el g123) e126 dX0_sideOf_179 ?_
        refine ev_aload_n (pc := 180) (i := 0) rfl rfl rfl dX0_sideOf_180 ?_
        obtain ⟨x128, e129, h130⟩ := qv_el h127; clear h127
        refine xv_getJv (pc := 181) fn_4 (isb_el g52) e129 gw_211 dX0_sideOf_181 ?_
        refine ev_lcmp (pc := 184)  dX0_sideOf_184 ?_
        refine ev_if_ne (pc := 185) (tgt := 192) (by decide) dX0_sideOf_185 (fun c131 => ?_) (fun c131 => ?_)
        · replace h130 := qi_f h130 (lc_eqN c131)
          refine ev_iconst (pc := 192) (v := 0) (by decide) dX0_sideOf_192 ?_
          exact ev_weak (qL_s (qL_s (qL_n (qL_s qL_nil)))) (e_X0_sideOf_193 h130)
        · replace h130 := qi_t h130 (lc_eq c131)
          refine ev_iconst (pc := 188) (v := 1) (by decide) dX0_sideOf_188 ?_
          refine ev_goto (pc := 189) (tgt := 193) (by decide) dX0_sideOf_189 ?_
          exact ev_weak (qL_s (qL_s (qL_n (qL_s qL_nil)))) (e_X0_sideOf_193 h130)
  · replace h56 := qi_t h56 c57
    refine ev_iload_n (pc := 89) (i := 2) rfl rfl dX0_sideOf_89 ?_
    refine ev_if_eq (pc := 90) (tgt := 120) (by decide) dX0_sideOf_90 (fun c133 => ?_) (fun c133 => ?_)
    · replace h56 := qi_t h56 c133
      refine ev_iconst (pc := 120) (v := 0) (by decide) dX0_sideOf_120 ?_
      exact ev_weak (qL_s (qL_s (qL_n (qL_s qL_nil)))) (e_X0_sideOf_121 h56)
    · replace h56 := qi_f h56 c133
      refine ev_aload_n (pc := 93) (i := 1) rfl rfl rfl dX0_sideOf_93 ?_
      obtain ⟨g164, h165⟩ := qk_el h56; clear h56
      obtain ⟨x166, S167, e168, h169⟩ := qc_el h165; clear h165
      refine xv_callV (pc := 94) (st := []) (as := []) (v := (some (.int x166))) (S' := S167) ok_X3_icmpType (e_X3_icmpType e168) (isb_el g164) (by decide) rfl (Nat.le_of_ble_eq_true rfl) rfl gw_952 dX0_sideOf_94 ?_
      refine ev_bipush (pc := 97) (v := 8) (by decide) dX0_sideOf_97 ?_
      refine ev_ic_ne (pc := 99) (tgt := 120) (by decide) dX0_sideOf_99 (fun c170 => ?_) (fun c170 => ?_)
      · replace h169 := qi_f h169 c170
        refine ev_iconst (pc := 120) (v := 0) (by decide) dX0_sideOf_120 ?_
        exact ev_weak (qL_s (qL_s (qL_n (qL_s qL_nil)))) (e_X0_sideOf_121 h169)
      · replace h169 := qi_t h169 c170
        refine ev_aload_n (pc := 102) (i := 1) rfl rfl rfl dX0_sideOf_102 ?_
        obtain ⟨g172, h173⟩ := qk_el h169; clear h169
        obtain ⟨b174, e175, h176⟩ := qP_el h173; clear h173
        refine xv_getP (pc := 103) fn_200 (isb_el g172) e175 gw_268 dX0_sideOf_103 ?_
        refine ev_iconst (pc := 106) (v := 5) (by decide) dX0_sideOf_106 ?_
        obtain ⟨g177, h178⟩ := qk_el h176; clear h176
        obtain ⟨g179, h180⟩ := qk_el h178; clear h178
        obtain ⟨x181, e182, h183⟩ := qv_el h180; clear h180
        refine yv_lald (pc := 107) (isb_el g177) (inb_el g179) e182 dX0_sideOf_107 ?_
        refine ev_aload_n (pc := 108) (i := 0) rfl rfl rfl dX0_sideOf_108 ?_
        obtain ⟨g184, h185⟩ := qk_el h183; clear h183
        obtain ⟨x186, e187, h188⟩ := qv_el h185; clear h185
        refine xv_getJv (pc := 109) fn_4 (isb_el g184) e187 gw_211 dX0_sideOf_109 ?_
        refine ev_lcmp (pc := 112)  dX0_sideOf_112 ?_
        refine ev_if_ne (pc := 113) (tgt := 120) (by decide) dX0_sideOf_113 (fun c189 => ?_) (fun c189 => ?_)
        · replace h188 := qi_f h188 (lc_eqN c189)
          refine ev_iconst (pc := 120) (v := 0) (by decide) dX0_sideOf_120 ?_
          exact ev_weak (qL_s (qL_s (qL_n (qL_s qL_nil)))) (e_X0_sideOf_121 h188)
        · replace h188 := qi_t h188 (lc_eq c189)
          refine ev_iconst (pc := 116) (v := 1) (by decide) dX0_sideOf_116 ?_
          refine ev_goto (pc := 117) (tgt := 121) (by decide) dX0_sideOf_117 ?_
          exact ev_weak (qL_s (qL_s (qL_n (qL_s qL_nil)))) (e_X0_sideOf_121 h188)
theorem e_X0_sideOf_46 {X : gk_X} {F : Nat} {l0 : Nat} {l1 : Nat} {s0 : Int32} {S : gk_S} {r : (Int32 × gk_S)} (h0 : f_X0_sideOf_46 F l0 l1 s0 S = some r) : EvW X m_X0_sideOf 2 0 0 46 [some (.ref l0), some (.ref l1), none, none] [.int s0] S (qRI r) := by
  unfold f_X0_sideOf_46 at h0
  refine ev_istore_n (pc := 46) (L' := [some (.ref l0), some (.ref l1), some (.int s0), none]) (i := 2) rfl (by decide) rfl rfl dX0_sideOf_46 ?_
  refine ev_aload_n (pc := 47) (i := 1) rfl rfl rfl dX0_sideOf_47 ?_
  obtain ⟨g33, h34⟩ := qk_el h0; clear h0
  obtain ⟨b35, e36, h37⟩ := qP_el h34; clear h34
  refine xv_getP (pc := 48) fn_200 (isb_el g33) e36 gw_268 dX0_sideOf_48 ?_
  refine ev_iconst (pc := 51) (v := 2) (by decide) dX0_sideOf_51 ?_
  obtain ⟨g38, h39⟩ := qk_el h37; clear h37
  obtain ⟨g40, h41⟩ := qk_el h39; clear h39
  obtain ⟨x42, e43, h44⟩ := qv_el h41; clear h41
  refine yv_lald (pc := 52) (isb_el g38) (inb_el g40) e43 dX0_sideOf_52 ?_
  refine ev_aload_n (pc := 53) (i := 0) rfl rfl rfl dX0_sideOf_53 ?_
  obtain ⟨g45, h46⟩ := qk_el h44; clear h44
  obtain ⟨x47, e48, h49⟩ := qv_el h46; clear h46
  refine xv_getJv (pc := 54) fn_2 (isb_el g45) e48 gw_209 dX0_sideOf_54 ?_
  refine ev_lcmp (pc := 57)  dX0_sideOf_57 ?_
  refine ev_if_ne (pc := 58) (tgt := 79) (by decide) dX0_sideOf_58 (fun c50 => ?_) (fun c50 => ?_)
  · replace h49 := qi_f h49 (lc_eqN c50)
    refine ev_iconst (pc := 79) (v := 0) (by decide) dX0_sideOf_79 ?_
    exact ev_weak (qL_s (qL_s (qL_s (qL_n qL_nil)))) (e_X0_sideOf_80 h49)
  · replace h49 := qi_t h49 (lc_eq c50)
    refine ev_aload_n (pc := 61) (i := 1) rfl rfl rfl dX0_sideOf_61 ?_
    obtain ⟨b191, e192, h193⟩ := qP_el h49; clear h49
    refine xv_getP (pc := 62) fn_200 (isb_el g33) e192 gw_268 dX0_sideOf_62 ?_
    refine ev_iconst (pc := 65) (v := 3) (by decide) dX0_sideOf_65 ?_
    obtain ⟨g194, h195⟩ := qk_el h193; clear h193
    obtain ⟨g196, h197⟩ := qk_el h195; clear h195
    obtain ⟨x198, e199, h200⟩ := qv_el h197; clear h197
    refine yv_lald (pc := 66) (isb_el g194) (inb_el g196) e199 dX0_sideOf_66 ?_
    refine ev_aload_n (pc := 67) (i := 0) rfl rfl rfl dX0_sideOf_67 ?_
    obtain ⟨x201, e202, h203⟩ := qv_el h200; clear h200
    refine xv_getJv (pc := 68) fn_1 (isb_el g45) e202 gw_208 dX0_sideOf_68 ?_
    refine ev_lcmp (pc := 71)  dX0_sideOf_71 ?_
    refine ev_if_ne (pc := 72) (tgt := 79) (by decide) dX0_sideOf_72 (fun c204 => ?_) (fun c204 => ?_)
    · replace h203 := qi_f h203 (lc_eqN c204)
      refine ev_iconst (pc := 79) (v := 0) (by decide) dX0_sideOf_79 ?_
      exact ev_weak (qL_s (qL_s (qL_s (qL_n qL_nil)))) (e_X0_sideOf_80 h203)
    · replace h203 := qi_t h203 (lc_eq c204)
      refine ev_iconst (pc := 75) (v := 1) (by decide) dX0_sideOf_75 ?_
      refine ev_goto (pc := 76) (tgt := 80) (by decide) dX0_sideOf_76 ?_
      exact ev_weak (qL_s (qL_s (qL_s (qL_n qL_nil)))) (e_X0_sideOf_80 h203)
theorem e_X0_sideOf {X : gk_X} {F : Nat} {S : gk_S} {a : Nat} {p0 : Nat} {r : (Int32 × gk_S)} (h0 : f_X0_sideOf F S a p0 = some r) : EvM X m_X0_sideOf 2 0 0 [.ref a, .ref p0] S (qRI r) := by
  unfold f_X0_sideOf at h0
  refine ev_method (by decide +kernel) rfl rfl (Nat.le_of_ble_eq_true rfl) ?_
  show EvW X m_X0_sideOf 2 0 0 0 [some (.ref a), some (.ref p0), none, none] [] S _
  refine ev_aload_n (pc := 0) (i := 1) rfl rfl rfl dX0_sideOf_0 ?_
  refine ev_aload_n (pc := 1) (i := 0) rfl rfl rfl dX0_sideOf_1 ?_
  obtain ⟨g1, h2⟩ := qk_el h0; clear h0
  obtain ⟨x3, e4, h5⟩ := qv_el h2; clear h2
  refine xv_getIv (pc := 2) fn_0 (isb_el g1) e4 gw_207 dX0_sideOf_2 ?_
  obtain ⟨g6, h7⟩ := qk_el h5; clear h5
  obtain ⟨x8, S9, e10, h11⟩ := qc_el h7; clear h7
  refine xv_callV (pc := 5) (st := []) (as := [.int x3]) (v := (some (.int x8))) (S' := S9) ok_X3_isOf (e_X3_isOf e10) (isb_el g6) (by decide) rfl (Nat.le_of_ble_eq_true rfl) rfl gw_948 dX0_sideOf_5 ?_
  refine ev_if_ne (pc := 8) (tgt := 13) (by decide) dX0_sideOf_8 (fun c12 => ?_) (fun c12 => ?_)
  · replace h11 := qi_f h11 c12
    refine ev_aload_n (pc := 13) (i := 1) rfl rfl rfl dX0_sideOf_13 ?_
    obtain ⟨g14, h15⟩ := qk_el h11; clear h11
    obtain ⟨b16, e17, h18⟩ := qP_el h15; clear h15
    refine xv_getP (pc := 14) fn_200 (isb_el g14) e17 gw_268 dX0_sideOf_14 ?_
    refine ev_iconst (pc := 17) (v := 2) (by decide) dX0_sideOf_17 ?_
    obtain ⟨g19, h20⟩ := qk_el h18; clear h18
    obtain ⟨g21, h22⟩ := qk_el h20; clear h20
    obtain ⟨x23, e24, h25⟩ := qv_el h22; clear h22
    refine yv_lald (pc := 18) (isb_el g19) (inb_el g21) e24 dX0_sideOf_18 ?_
    refine ev_aload_n (pc := 19) (i := 0) rfl rfl rfl dX0_sideOf_19 ?_
    obtain ⟨g26, h27⟩ := qk_el h25; clear h25
    obtain ⟨x28, e29, h30⟩ := qv_el h27; clear h27
    refine xv_getJv (pc := 20) fn_1 (isb_el g26) e29 gw_208 dX0_sideOf_20 ?_
    refine ev_lcmp (pc := 23)  dX0_sideOf_23 ?_
    refine ev_if_ne (pc := 24) (tgt := 45) (by decide) dX0_sideOf_24 (fun c31 => ?_) (fun c31 => ?_)
    · replace h30 := qi_f h30 (lc_eqN c31)
      refine ev_iconst (pc := 45) (v := 0) (by decide) dX0_sideOf_45 ?_
      exact ev_weak (qL_s (qL_s (qL_n (qL_n qL_nil)))) (e_X0_sideOf_46 h30)
    · replace h30 := qi_t h30 (lc_eq c31)
      refine ev_aload_n (pc := 27) (i := 1) rfl rfl rfl dX0_sideOf_27 ?_
      obtain ⟨b206, e207, h208⟩ := qP_el h30; clear h30
      refine xv_getP (pc := 28) fn_200 (isb_el g14) e207 gw_268 dX0_sideOf_28 ?_
      refine ev_iconst (pc := 31) (v := 3) (by decide) dX0_sideOf_31 ?_
      obtain ⟨g209, h210⟩ := qk_el h208; clear h208
      obtain ⟨g211, h212⟩ := qk_el h210; clear h210
      obtain ⟨x213, e214, h215⟩ := qv_el h212; clear h212
      refine yv_lald (pc := 32) (isb_el g209) (inb_el g211) e214 dX0_sideOf_32 ?_
      refine ev_aload_n (pc := 33) (i := 0) rfl rfl rfl dX0_sideOf_33 ?_
      obtain ⟨x216, e217, h218⟩ := qv_el h215; clear h215
      refine xv_getJv (pc := 34) fn_2 (isb_el g26) e217 gw_209 dX0_sideOf_34 ?_
      refine ev_lcmp (pc := 37)  dX0_sideOf_37 ?_
      refine ev_if_ne (pc := 38) (tgt := 45) (by decide) dX0_sideOf_38 (fun c219 => ?_) (fun c219 => ?_)
      · replace h218 := qi_f h218 (lc_eqN c219)
        refine ev_iconst (pc := 45) (v := 0) (by decide) dX0_sideOf_45 ?_
        exact ev_weak (qL_s (qL_s (qL_n (qL_n qL_nil)))) (e_X0_sideOf_46 h218)
      · replace h218 := qi_t h218 (lc_eq c219)
        refine ev_iconst (pc := 41) (v := 1) (by decide) dX0_sideOf_41 ?_
        refine ev_goto (pc := 42) (tgt := 46) (by decide) dX0_sideOf_42 ?_
        exact ev_weak (qL_s (qL_s (qL_n (qL_n qL_nil)))) (e_X0_sideOf_46 h218)
  · replace h11 := qi_t h11 c12
    refine ev_iconst (pc := 11) (v := 0) (by decide) dX0_sideOf_11 ?_
    exact ev_ireturn (pc := 12) rfl (nar_int _) (qRI_eq h11) dX0_sideOf_12
theorem dX8_placeOf_0 : decode cX8_placeOf 0 = .ok (.iconst 0, 1) := by decide +kernel
theorem dX8_placeOf_1 : decode cX8_placeOf 1 = .ok (.istore_n 2, 1) := by decide +kernel
theorem dX8_placeOf_2 : decode cX8_placeOf 2 = .ok (.iload_n 2, 1) := by decide +kernel
theorem dX8_placeOf_3 : decode cX8_placeOf 3 = .ok (.aload_n 0, 1) := by decide +kernel
theorem dX8_placeOf_4 : decode cX8_placeOf 4 = .ok (.getfield 18, 3) := by decide +kernel
theorem dX8_placeOf_7 : decode cX8_placeOf 7 = .ok (.if_icmp .ge 30, 3) := by decide +kernel
theorem dX8_placeOf_10 : decode cX8_placeOf 10 = .ok (.iload_n 2, 1) := by decide +kernel
theorem dX8_placeOf_11 : decode cX8_placeOf 11 = .ok (.bipush 64, 2) := by decide +kernel
theorem dX8_placeOf_13 : decode cX8_placeOf 13 = .ok (.if_icmp .ge 24, 3) := by decide +kernel
theorem dX8_placeOf_16 : decode cX8_placeOf 16 = .ok (.aload_n 0, 1) := by decide +kernel
theorem dX8_placeOf_17 : decode cX8_placeOf 17 = .ok (.getfield 13, 3) := by decide +kernel
theorem dX8_placeOf_20 : decode cX8_placeOf 20 = .ok (.iload_n 2, 1) := by decide +kernel
theorem dX8_placeOf_21 : decode cX8_placeOf 21 = .ok (.aaload, 1) := by decide +kernel
theorem dX8_placeOf_22 : decode cX8_placeOf 22 = .ok (.aload_n 1, 1) := by decide +kernel
theorem dX8_placeOf_23 : decode cX8_placeOf 23 = .ok (.invokevirtual 46, 3) := by decide +kernel
theorem dX8_placeOf_26 : decode cX8_placeOf 26 = .ok (.ifCond .eq 5, 3) := by decide +kernel
theorem dX8_placeOf_29 : decode cX8_placeOf 29 = .ok (.iload_n 2, 1) := by decide +kernel
theorem dX8_placeOf_30 : decode cX8_placeOf 30 = .ok (.ireturn, 1) := by decide +kernel
theorem dX8_placeOf_31 : decode cX8_placeOf 31 = .ok (.iinc 2 1, 3) := by decide +kernel
theorem dX8_placeOf_34 : decode cX8_placeOf 34 = .ok (.goto (-32), 3) := by decide +kernel
theorem dX8_placeOf_37 : decode cX8_placeOf 37 = .ok (.iconst (-1), 1) := by decide +kernel
theorem dX8_placeOf_38 : decode cX8_placeOf 38 = .ok (.ireturn, 1) := by decide +kernel
theorem e_X8_placeOf_2 {X : gk_X} {F : Nat} : ∀ (n : Nat) (l0 : Nat) (l1 : Nat) (l2 : Int32) (S : gk_S) (r : (Int32 × gk_S)), f_X8_placeOf_2 F n l0 l1 l2 S = some r → EvW X m_X8_placeOf 3 0 0 2 [some (.ref l0), some (.ref l1), some (.int l2)] [] S (qRI r) := by
  intro n
  induction n with
  | zero => intro l0 l1 l2 S r h0; rw [f_X8_placeOf_2] at h0; cases h0
  | succ n ih =>
    intro l0 l1 l2 S r h0; rw [f_X8_placeOf_2] at h0
    refine ev_iload_n (pc := 2) (i := 2) rfl rfl dX8_placeOf_2 ?_
    refine ev_aload_n (pc := 3) (i := 0) rfl rfl rfl dX8_placeOf_3 ?_
    obtain ⟨g1, h2⟩ := qk_el h0; clear h0
    obtain ⟨x3, e4, h5⟩ := qv_el h2; clear h2
    refine xv_getIv (pc := 4) fn_601 (isb_el g1) e4 gw_238 dX8_placeOf_4 ?_
    refine ev_ic_ge (pc := 7) (tgt := 37) (by decide) dX8_placeOf_7 (fun c6 => ?_) (fun c6 => ?_)
    · replace h5 := qi_t h5 c6
      refine ev_iconst (pc := 37) (v := -1) (by decide) dX8_placeOf_37 ?_
      exact ev_ireturn (pc := 38) rfl (nar_int _) (qRI_eq h5) dX8_placeOf_38
    · replace h5 := qi_f h5 c6
      refine ev_iload_n (pc := 10) (i := 2) rfl rfl dX8_placeOf_10 ?_
      refine ev_bipush (pc := 11) (v := 64) (by decide) dX8_placeOf_11 ?_
      refine ev_ic_ge (pc := 13) (tgt := 37) (by decide) dX8_placeOf_13 (fun c8 => ?_) (fun c8 => ?_)
      · replace h5 := qi_t h5 c8
        refine ev_iconst (pc := 37) (v := -1) (by decide) dX8_placeOf_37 ?_
        exact ev_ireturn (pc := 38) rfl (nar_int _) (qRI_eq h5) dX8_placeOf_38
      · replace h5 := qi_f h5 c8
        refine ev_aload_n (pc := 16) (i := 0) rfl rfl rfl dX8_placeOf_16 ?_
        obtain ⟨b10, e11, h12⟩ := qP_el h5; clear h5
        refine xv_getP (pc := 17) fn_600 (isb_el g1) e11 gw_237 dX8_placeOf_17 ?_
        refine ev_iload_n (pc := 20) (i := 2) rfl rfl dX8_placeOf_20 ?_
        obtain ⟨g13, h14⟩ := qk_el h12; clear h12
        obtain ⟨g15, h16⟩ := qk_el h14; clear h14
        obtain ⟨b17, e18, h19⟩ := qP_el h16; clear h16
        refine yv_aald (pc := 21) (isb_el g13) (by decide) (inb_el g15) e18 dX8_placeOf_21 ?_
        refine ev_aload_n (pc := 22) (i := 1) rfl rfl rfl dX8_placeOf_22 ?_
        obtain ⟨g20, h21⟩ := qk_el h19; clear h19
        obtain ⟨x22, S23, e24, h25⟩ := qc_el h21; clear h21
        refine xv_callV (pc := 23) (st := []) (as := [.ref l1]) (v := (some (.int x22))) (S' := S23) ok_X0_sideOf (e_X0_sideOf e24) (isb_el g20) (by decide) rfl (Nat.le_of_ble_eq_true rfl) rfl gw_944 dX8_placeOf_23 ?_
        refine ev_if_eq (pc := 26) (tgt := 31) (by decide) dX8_placeOf_26 (fun c26 => ?_) (fun c26 => ?_)
        · replace h25 := qi_t h25 c26
          refine ev_iinc (pc := 31) (L' := [some (.ref l0), some (.ref l1), some (.int (l2 + 1))]) (i := 2) (v := (l2 + 1)) rfl rfl (by decide) rfl rfl dX8_placeOf_31 ?_
          refine ev_goto (pc := 34) (tgt := 2) (by decide) dX8_placeOf_34 ?_
          exact (ev_weak (qL_s (qL_s (qL_s qL_nil))) (ih _ _ _ _ _ h25))
        · replace h25 := qi_f h25 c26
          refine ev_iload_n (pc := 29) (i := 2) rfl rfl dX8_placeOf_29 ?_
          exact ev_ireturn (pc := 30) rfl (nar_int _) (qRI_eq h25) dX8_placeOf_30
theorem e_X8_placeOf {X : gk_X} {F : Nat} {S : gk_S} {a : Nat} {p0 : Nat} {r : (Int32 × gk_S)} (h0 : f_X8_placeOf F S a p0 = some r) : EvM X m_X8_placeOf 3 0 0 [.ref a, .ref p0] S (qRI r) := by
  unfold f_X8_placeOf at h0
  refine ev_method (by decide +kernel) rfl rfl (Nat.le_of_ble_eq_true rfl) ?_
  show EvW X m_X8_placeOf 3 0 0 0 [some (.ref a), some (.ref p0), none] [] S _
  refine ev_iconst (pc := 0) (v := 0) (by decide) dX8_placeOf_0 ?_
  refine ev_istore_n (pc := 1) (L' := [some (.ref a), some (.ref p0), some (.int 0)]) (i := 2) rfl (by decide) rfl rfl dX8_placeOf_1 ?_
  exact ev_weak (qL_s (qL_s (qL_s qL_nil))) (e_X8_placeOf_2 F _ _ _ _ _ h0)
theorem dX8_mayBegin_0 : decode cX8_mayBegin 0 = .ok (.aload_n 0, 1) := by decide +kernel
theorem dX8_mayBegin_1 : decode cX8_mayBegin 1 = .ok (.bipush 6, 2) := by decide +kernel
theorem dX8_mayBegin_3 : decode cX8_mayBegin 3 = .ok (.invokevirtual 79, 3) := by decide +kernel
theorem dX8_mayBegin_6 : decode cX8_mayBegin 6 = .ok (.ifCond .eq 20, 3) := by decide +kernel
theorem dX8_mayBegin_9 : decode cX8_mayBegin 9 = .ok (.aload_n 0, 1) := by decide +kernel
theorem dX8_mayBegin_10 : decode cX8_mayBegin 10 = .ok (.getfield 85, 3) := by decide +kernel
theorem dX8_mayBegin_13 : decode cX8_mayBegin 13 = .ok (.bipush 23, 2) := by decide +kernel
theorem dX8_mayBegin_15 : decode cX8_mayBegin 15 = .ok (.iand, 1) := by decide +kernel
theorem dX8_mayBegin_16 : decode cX8_mayBegin 16 = .ok (.iconst 2, 1) := by decide +kernel
theorem dX8_mayBegin_17 : decode cX8_mayBegin 17 = .ok (.if_icmp .ne 7, 3) := by decide +kernel
theorem dX8_mayBegin_20 : decode cX8_mayBegin 20 = .ok (.iconst 1, 1) := by decide +kernel
theorem dX8_mayBegin_21 : decode cX8_mayBegin 21 = .ok (.goto 4, 3) := by decide +kernel
theorem dX8_mayBegin_24 : decode cX8_mayBegin 24 = .ok (.iconst 0, 1) := by decide +kernel
theorem dX8_mayBegin_25 : decode cX8_mayBegin 25 = .ok (.ireturn, 1) := by decide +kernel
theorem dX8_mayBegin_26 : decode cX8_mayBegin 26 = .ok (.aload_n 0, 1) := by decide +kernel
theorem dX8_mayBegin_27 : decode cX8_mayBegin 27 = .ok (.iconst 1, 1) := by decide +kernel
theorem dX8_mayBegin_28 : decode cX8_mayBegin 28 = .ok (.invokevirtual 79, 3) := by decide +kernel
theorem dX8_mayBegin_31 : decode cX8_mayBegin 31 = .ok (.ifCond .eq 12, 3) := by decide +kernel
theorem dX8_mayBegin_34 : decode cX8_mayBegin 34 = .ok (.aload_n 0, 1) := by decide +kernel
theorem dX8_mayBegin_35 : decode cX8_mayBegin 35 = .ok (.invokevirtual 88, 3) := by decide +kernel
theorem dX8_mayBegin_38 : decode cX8_mayBegin 38 = .ok (.bipush 8, 2) := by decide +kernel
theorem dX8_mayBegin_40 : decode cX8_mayBegin 40 = .ok (.if_icmp .ne 7, 3) := by decide +kernel
theorem dX8_mayBegin_43 : decode cX8_mayBegin 43 = .ok (.iconst 1, 1) := by decide +kernel
theorem dX8_mayBegin_44 : decode cX8_mayBegin 44 = .ok (.goto 4, 3) := by decide +kernel
theorem dX8_mayBegin_47 : decode cX8_mayBegin 47 = .ok (.iconst 0, 1) := by decide +kernel
theorem dX8_mayBegin_48 : decode cX8_mayBegin 48 = .ok (.ireturn, 1) := by decide +kernel
theorem e_X8_mayBegin {X : gk_X} {F : Nat} {S : gk_S} {p0 : Nat} {r : (Int32 × gk_S)} (h0 : f_X8_mayBegin F S p0 = some r) : EvM X m_X8_mayBegin 2 0 0 [.ref p0] S (qRI r) := by
  unfold f_X8_mayBegin at h0
  refine ev_method (by decide +kernel) rfl rfl (Nat.le_of_ble_eq_true rfl) ?_
  show EvW X m_X8_mayBegin 2 0 0 0 [some (.ref p0)] [] S _
  refine ev_aload_n (pc := 0) (i := 0) rfl rfl rfl dX8_mayBegin_0 ?_
  refine ev_bipush (pc := 1) (v := 6) (by decide) dX8_mayBegin_1 ?_
  obtain ⟨g1, h2⟩ := qk_el h0; clear h0
  obtain ⟨x3, S4, e5, h6⟩ := qc_el h2; clear h2
  refine xv_callV (pc := 3) (st := []) (as := [.int 6]) (v := (some (.int x3))) (S' := S4) ok_X3_isOf (e_X3_isOf e5) (isb_el g1) (by decide) rfl (Nat.le_of_ble_eq_true rfl) rfl gw_963 dX8_mayBegin_3 ?_
  refine ev_if_eq (pc := 6) (tgt := 26) (by decide) dX8_mayBegin_6 (fun c7 => ?_) (fun c7 => ?_)
  · replace h6 := qi_t h6 c7
    refine ev_aload_n (pc := 26) (i := 0) rfl rfl rfl dX8_mayBegin_26 ?_
    refine ev_iconst (pc := 27) (v := 1) (by decide) dX8_mayBegin_27 ?_
    obtain ⟨g9, h10⟩ := qk_el h6; clear h6
    obtain ⟨x11, S12, e13, h14⟩ := qc_el h10; clear h10
    refine xv_callV (pc := 28) (st := []) (as := [.int 1]) (v := (some (.int x11))) (S' := S12) ok_X3_isOf (e_X3_isOf e13) (isb_el g9) (by decide) rfl (Nat.le_of_ble_eq_true rfl) rfl gw_963 dX8_mayBegin_28 ?_
    refine ev_if_eq (pc := 31) (tgt := 43) (by decide) dX8_mayBegin_31 (fun c15 => ?_) (fun c15 => ?_)
    · replace h14 := qi_t h14 c15
      refine ev_iconst (pc := 43) (v := 1) (by decide) dX8_mayBegin_43 ?_
      refine ev_goto (pc := 44) (tgt := 48) (by decide) dX8_mayBegin_44 ?_
      exact ev_ireturn (pc := 48) rfl rfl (qRI_eq h14) dX8_mayBegin_48
    · replace h14 := qi_f h14 c15
      refine ev_aload_n (pc := 34) (i := 0) rfl rfl rfl dX8_mayBegin_34 ?_
      obtain ⟨g17, h18⟩ := qk_el h14; clear h14
      obtain ⟨x19, S20, e21, h22⟩ := qc_el h18; clear h18
      refine xv_callV (pc := 35) (st := []) (as := []) (v := (some (.int x19))) (S' := S20) ok_X3_icmpType (e_X3_icmpType e21) (isb_el g17) (by decide) rfl (Nat.le_of_ble_eq_true rfl) rfl gw_964 dX8_mayBegin_35 ?_
      refine ev_bipush (pc := 38) (v := 8) (by decide) dX8_mayBegin_38 ?_
      refine ev_ic_ne (pc := 40) (tgt := 47) (by decide) dX8_mayBegin_40 (fun c23 => ?_) (fun c23 => ?_)
      · replace h22 := qi_f h22 c23
        refine ev_iconst (pc := 47) (v := 0) (by decide) dX8_mayBegin_47 ?_
        exact ev_ireturn (pc := 48) rfl rfl (qRI_eq h22) dX8_mayBegin_48
      · replace h22 := qi_t h22 c23
        refine ev_iconst (pc := 43) (v := 1) (by decide) dX8_mayBegin_43 ?_
        refine ev_goto (pc := 44) (tgt := 48) (by decide) dX8_mayBegin_44 ?_
        exact ev_ireturn (pc := 48) rfl rfl (qRI_eq h22) dX8_mayBegin_48
  · replace h6 := qi_f h6 c7
    refine ev_aload_n (pc := 9) (i := 0) rfl rfl rfl dX8_mayBegin_9 ?_
    obtain ⟨g25, h26⟩ := qk_el h6; clear h6
    obtain ⟨x27, e28, h29⟩ := qv_el h26; clear h26
    refine xv_getIv (pc := 10) fn_201 (isb_el g25) e28 gw_275 dX8_mayBegin_10 ?_
    refine ev_bipush (pc := 13) (v := 23) (by decide) dX8_mayBegin_13 ?_
    refine ev_iand (pc := 15)  dX8_mayBegin_15 ?_
    refine ev_iconst (pc := 16) (v := 2) (by decide) dX8_mayBegin_16 ?_
    refine ev_ic_ne (pc := 17) (tgt := 24) (by decide) dX8_mayBegin_17 (fun c30 => ?_) (fun c30 => ?_)
    · replace h29 := qi_f h29 c30
      refine ev_iconst (pc := 24) (v := 0) (by decide) dX8_mayBegin_24 ?_
      exact ev_ireturn (pc := 25) rfl rfl (qRI_eq h29) dX8_mayBegin_25
    · replace h29 := qi_t h29 c30
      refine ev_iconst (pc := 20) (v := 1) (by decide) dX8_mayBegin_20 ?_
      refine ev_goto (pc := 21) (tgt := 25) (by decide) dX8_mayBegin_21 ?_
      exact ev_ireturn (pc := 25) rfl rfl (qRI_eq h29) dX8_mayBegin_25
theorem dX4_signOf_0 : decode cX4_signOf 0 = .ok (.iload_n 0, 1) := by decide +kernel
theorem dX4_signOf_1 : decode cX4_signOf 1 = .ok (.iconst 4, 1) := by decide +kernel
theorem dX4_signOf_2 : decode cX4_signOf 2 = .ok (.iand, 1) := by decide +kernel
theorem dX4_signOf_3 : decode cX4_signOf 3 = .ok (.ifCond .eq 5, 3) := by decide +kernel
theorem dX4_signOf_6 : decode cX4_signOf 6 = .ok (.iconst 0, 1) := by decide +kernel
theorem dX4_signOf_7 : decode cX4_signOf 7 = .ok (.ireturn, 1) := by decide +kernel
theorem dX4_signOf_8 : decode cX4_signOf 8 = .ok (.iload_n 0, 1) := by decide +kernel
theorem dX4_signOf_9 : decode cX4_signOf 9 = .ok (.iconst 2, 1) := by decide +kernel
theorem dX4_signOf_10 : decode cX4_signOf 10 = .ok (.iand, 1) := by decide +kernel
theorem dX4_signOf_11 : decode cX4_signOf 11 = .ok (.ifCond .eq 16, 3) := by decide +kernel
theorem dX4_signOf_14 : decode cX4_signOf 14 = .ok (.iload_n 0, 1) := by decide +kernel
theorem dX4_signOf_15 : decode cX4_signOf 15 = .ok (.bipush 16, 2) := by decide +kernel
theorem dX4_signOf_17 : decode cX4_signOf 17 = .ok (.iand, 1) := by decide +kernel
theorem dX4_signOf_18 : decode cX4_signOf 18 = .ok (.ifCond .eq 7, 3) := by decide +kernel
theorem dX4_signOf_21 : decode cX4_signOf 21 = .ok (.iconst 2, 1) := by decide +kernel
theorem dX4_signOf_22 : decode cX4_signOf 22 = .ok (.goto 4, 3) := by decide +kernel
theorem dX4_signOf_25 : decode cX4_signOf 25 = .ok (.iconst 1, 1) := by decide +kernel
theorem dX4_signOf_26 : decode cX4_signOf 26 = .ok (.ireturn, 1) := by decide +kernel
theorem dX4_signOf_27 : decode cX4_signOf 27 = .ok (.iload_n 0, 1) := by decide +kernel
theorem dX4_signOf_28 : decode cX4_signOf 28 = .ok (.iconst 1, 1) := by decide +kernel
theorem dX4_signOf_29 : decode cX4_signOf 29 = .ok (.iand, 1) := by decide +kernel
theorem dX4_signOf_30 : decode cX4_signOf 30 = .ok (.ifCond .eq 5, 3) := by decide +kernel
theorem dX4_signOf_33 : decode cX4_signOf 33 = .ok (.iconst 3, 1) := by decide +kernel
theorem dX4_signOf_34 : decode cX4_signOf 34 = .ok (.ireturn, 1) := by decide +kernel
theorem dX4_signOf_35 : decode cX4_signOf 35 = .ok (.iload_n 0, 1) := by decide +kernel
theorem dX4_signOf_36 : decode cX4_signOf 36 = .ok (.bipush 16, 2) := by decide +kernel
theorem dX4_signOf_38 : decode cX4_signOf 38 = .ok (.iand, 1) := by decide +kernel
theorem dX4_signOf_39 : decode cX4_signOf 39 = .ok (.ifCond .eq 7, 3) := by decide +kernel
theorem dX4_signOf_42 : decode cX4_signOf 42 = .ok (.iconst 4, 1) := by decide +kernel
theorem dX4_signOf_43 : decode cX4_signOf 43 = .ok (.goto 4, 3) := by decide +kernel
theorem dX4_signOf_46 : decode cX4_signOf 46 = .ok (.iconst 5, 1) := by decide +kernel
theorem dX4_signOf_47 : decode cX4_signOf 47 = .ok (.ireturn, 1) := by decide +kernel
theorem e_X4_signOf {X : gk_X} {F : Nat} {S : gk_S} {p0 : Int32} {r : (Int32 × gk_S)} (h0 : f_X4_signOf F S p0 = some r) : EvM X m_X4_signOf 1 0 0 [.int p0] S (qRI r) := by
  unfold f_X4_signOf at h0
  refine ev_method (by decide +kernel) rfl rfl (Nat.le_of_ble_eq_true rfl) ?_
  show EvW X m_X4_signOf 1 0 0 0 [some (.int p0)] [] S _
  refine ev_iload_n (pc := 0) (i := 0) rfl rfl dX4_signOf_0 ?_
  refine ev_iconst (pc := 1) (v := 4) (by decide) dX4_signOf_1 ?_
  refine ev_iand (pc := 2)  dX4_signOf_2 ?_
  refine ev_if_eq (pc := 3) (tgt := 8) (by decide) dX4_signOf_3 (fun c1 => ?_) (fun c1 => ?_)
  · replace h0 := qi_t h0 c1
    refine ev_iload_n (pc := 8) (i := 0) rfl rfl dX4_signOf_8 ?_
    refine ev_iconst (pc := 9) (v := 2) (by decide) dX4_signOf_9 ?_
    refine ev_iand (pc := 10)  dX4_signOf_10 ?_
    refine ev_if_eq (pc := 11) (tgt := 27) (by decide) dX4_signOf_11 (fun c3 => ?_) (fun c3 => ?_)
    · replace h0 := qi_t h0 c3
      refine ev_iload_n (pc := 27) (i := 0) rfl rfl dX4_signOf_27 ?_
      refine ev_iconst (pc := 28) (v := 1) (by decide) dX4_signOf_28 ?_
      refine ev_iand (pc := 29)  dX4_signOf_29 ?_
      refine ev_if_eq (pc := 30) (tgt := 35) (by decide) dX4_signOf_30 (fun c5 => ?_) (fun c5 => ?_)
      · replace h0 := qi_t h0 c5
        refine ev_iload_n (pc := 35) (i := 0) rfl rfl dX4_signOf_35 ?_
        refine ev_bipush (pc := 36) (v := 16) (by decide) dX4_signOf_36 ?_
        refine ev_iand (pc := 38)  dX4_signOf_38 ?_
        refine ev_if_eq (pc := 39) (tgt := 46) (by decide) dX4_signOf_39 (fun c7 => ?_) (fun c7 => ?_)
        · replace h0 := qi_t h0 c7
          refine ev_iconst (pc := 46) (v := 5) (by decide) dX4_signOf_46 ?_
          exact ev_ireturn (pc := 47) rfl (nar_int _) (qRI_eq h0) dX4_signOf_47
        · replace h0 := qi_f h0 c7
          refine ev_iconst (pc := 42) (v := 4) (by decide) dX4_signOf_42 ?_
          refine ev_goto (pc := 43) (tgt := 47) (by decide) dX4_signOf_43 ?_
          exact ev_ireturn (pc := 47) rfl (nar_int _) (qRI_eq h0) dX4_signOf_47
      · replace h0 := qi_f h0 c5
        refine ev_iconst (pc := 33) (v := 3) (by decide) dX4_signOf_33 ?_
        exact ev_ireturn (pc := 34) rfl (nar_int _) (qRI_eq h0) dX4_signOf_34
    · replace h0 := qi_f h0 c3
      refine ev_iload_n (pc := 14) (i := 0) rfl rfl dX4_signOf_14 ?_
      refine ev_bipush (pc := 15) (v := 16) (by decide) dX4_signOf_15 ?_
      refine ev_iand (pc := 17)  dX4_signOf_17 ?_
      refine ev_if_eq (pc := 18) (tgt := 25) (by decide) dX4_signOf_18 (fun c9 => ?_) (fun c9 => ?_)
      · replace h0 := qi_t h0 c9
        refine ev_iconst (pc := 25) (v := 1) (by decide) dX4_signOf_25 ?_
        exact ev_ireturn (pc := 26) rfl (nar_int _) (qRI_eq h0) dX4_signOf_26
      · replace h0 := qi_f h0 c9
        refine ev_iconst (pc := 21) (v := 2) (by decide) dX4_signOf_21 ?_
        refine ev_goto (pc := 22) (tgt := 26) (by decide) dX4_signOf_22 ?_
        exact ev_ireturn (pc := 26) rfl (nar_int _) (qRI_eq h0) dX4_signOf_26
  · replace h0 := qi_f h0 c1
    refine ev_iconst (pc := 6) (v := 0) (by decide) dX4_signOf_6 ?_
    exact ev_ireturn (pc := 7) rfl (nar_int _) (qRI_eq h0) dX4_signOf_7
theorem dX4_behind_0 : decode cX4_behind 0 = .ok (.iload_n 0, 1) := by decide +kernel
theorem dX4_behind_1 : decode cX4_behind 1 = .ok (.iconst 1, 1) := by decide +kernel
theorem dX4_behind_2 : decode cX4_behind 2 = .ok (.if_icmp .lt 9, 3) := by decide +kernel
theorem dX4_behind_5 : decode cX4_behind 5 = .ok (.iload_n 0, 1) := by decide +kernel
theorem dX4_behind_6 : decode cX4_behind 6 = .ok (.bipush 7, 2) := by decide +kernel
theorem dX4_behind_8 : decode cX4_behind 8 = .ok (.if_icmp .le 5, 3) := by decide +kernel
theorem dX4_behind_11 : decode cX4_behind 11 = .ok (.iconst (-1), 1) := by decide +kernel
theorem dX4_behind_12 : decode cX4_behind 12 = .ok (.ireturn, 1) := by decide +kernel
theorem dX4_behind_13 : decode cX4_behind 13 = .ok (.iload_n 0, 1) := by decide +kernel
theorem dX4_behind_14 : decode cX4_behind 14 = .ok (.iconst 4, 1) := by decide +kernel
theorem dX4_behind_15 : decode cX4_behind 15 = .ok (.if_icmp .eq 8, 3) := by decide +kernel
theorem dX4_behind_18 : decode cX4_behind 18 = .ok (.iload_n 0, 1) := by decide +kernel
theorem dX4_behind_19 : decode cX4_behind 19 = .ok (.iconst 5, 1) := by decide +kernel
theorem dX4_behind_20 : decode cX4_behind 20 = .ok (.if_icmp .ne 7, 3) := by decide +kernel
theorem dX4_behind_23 : decode cX4_behind 23 = .ok (.iload_n 3, 1) := by decide +kernel
theorem dX4_behind_24 : decode cX4_behind 24 = .ok (.goto 4, 3) := by decide +kernel
theorem dX4_behind_27 : decode cX4_behind 27 = .ok (.iconst 1, 1) := by decide +kernel
theorem dX4_behind_28 : decode cX4_behind 28 = .ok (.istore 4, 2) := by decide +kernel
theorem dX4_behind_30 : decode cX4_behind 30 = .ok (.iconst 2, 1) := by decide +kernel
theorem dX4_behind_31 : decode cX4_behind 31 = .ok (.iload_n 0, 1) := by decide +kernel
theorem dX4_behind_32 : decode cX4_behind 32 = .ok (.iconst 1, 1) := by decide +kernel
theorem dX4_behind_33 : decode cX4_behind 33 = .ok (.isub, 1) := by decide +kernel
theorem dX4_behind_34 : decode cX4_behind 34 = .ok (.imul, 1) := by decide +kernel
theorem dX4_behind_35 : decode cX4_behind 35 = .ok (.iload_n 2, 1) := by decide +kernel
theorem dX4_behind_36 : decode cX4_behind 36 = .ok (.iload 4, 2) := by decide +kernel
theorem dX4_behind_38 : decode cX4_behind 38 = .ok (.if_icmp .ne 7, 3) := by decide +kernel
theorem dX4_behind_41 : decode cX4_behind 41 = .ok (.iconst 0, 1) := by decide +kernel
theorem dX4_behind_42 : decode cX4_behind 42 = .ok (.goto 4, 3) := by decide +kernel
theorem dX4_behind_45 : decode cX4_behind 45 = .ok (.iconst 1, 1) := by decide +kernel
theorem dX4_behind_46 : decode cX4_behind 46 = .ok (.iadd, 1) := by decide +kernel
theorem dX4_behind_47 : decode cX4_behind 47 = .ok (.istore 5, 2) := by decide +kernel
theorem dX4_behind_49 : decode cX4_behind 49 = .ok (.getstatic 15, 3) := by decide +kernel
theorem dX4_behind_52 : decode cX4_behind 52 = .ok (.iload 5, 2) := by decide +kernel
theorem dX4_behind_54 : decode cX4_behind 54 = .ok (.bipush 6, 2) := by decide +kernel
theorem dX4_behind_56 : decode cX4_behind 56 = .ok (.imul, 1) := by decide +kernel
theorem dX4_behind_57 : decode cX4_behind 57 = .ok (.iload_n 1, 1) := by decide +kernel
theorem dX4_behind_58 : decode cX4_behind 58 = .ok (.invokestatic 18, 3) := by decide +kernel
theorem dX4_behind_61 : decode cX4_behind 61 = .ok (.iadd, 1) := by decide +kernel
theorem dX4_behind_62 : decode cX4_behind 62 = .ok (.iaload, 1) := by decide +kernel
theorem dX4_behind_63 : decode cX4_behind 63 = .ok (.istore 6, 2) := by decide +kernel
theorem dX4_behind_65 : decode cX4_behind 65 = .ok (.iload 6, 2) := by decide +kernel
theorem dX4_behind_67 : decode cX4_behind 67 = .ok (.ifCond .ne 7, 3) := by decide +kernel
theorem dX4_behind_70 : decode cX4_behind 70 = .ok (.iconst (-1), 1) := by decide +kernel
theorem dX4_behind_71 : decode cX4_behind 71 = .ok (.goto 5, 3) := by decide +kernel
theorem dX4_behind_74 : decode cX4_behind 74 = .ok (.iload 6, 2) := by decide +kernel
theorem dX4_behind_76 : decode cX4_behind 76 = .ok (.ireturn, 1) := by decide +kernel
theorem e_X4_behind_46 {X : gk_X} {F : Nat} {l1 : Int32} {s0 : Int32} {s1 : Int32} {S : gk_S} {r : (Int32 × gk_S)} (h0 : f_X4_behind_46 F l1 s0 s1 S = some r) : EvW X m_X4_behind 2 0 0 46 [none, some (.int l1), none, none, none, none, none] [.int s0, .int s1] S (qRI r) := by
  unfold f_X4_behind_46 at h0
  refine ev_iadd (pc := 46)  dX4_behind_46 ?_
  refine ev_istore (pc := 47) (L' := [none, some (.int l1), none, none, none, some (.int (s1 + s0)), none]) (i := 5) (by decide) rfl rfl dX4_behind_47 ?_
  refine ev_getsB (pc := 49) gw_972 dX4_behind_49 ?_
  refine ev_iload (pc := 52) (i := 5) rfl dX4_behind_52 ?_
  refine ev_bipush (pc := 54) (v := 6) (by decide) dX4_behind_54 ?_
  refine ev_imul (pc := 56)  dX4_behind_56 ?_
  refine ev_iload_n (pc := 57) (i := 1) rfl rfl dX4_behind_57 ?_
  obtain ⟨x9, S10, e11, h12⟩ := qc_el h0; clear h0
  refine xv_callS (pc := 58) (st := [.int ((s1 + s0) * 6), .retAddr 2]) (as := [.int l1]) (v := (some (.int x9))) (S' := S10) ok_X4_signOf (e_X4_signOf e11) (by decide) rfl (Nat.le_of_ble_eq_true rfl) rfl gw_974 dX4_behind_58 ?_
  refine ev_iadd (pc := 61)  dX4_behind_61 ?_
  obtain ⟨g13, h14⟩ := qk_el h12; clear h12
  refine ev_caldB (pc := 62) (inb_el g13) dX4_behind_62 ?_
  obtain ⟨x15, e16, h17⟩ := qv_el h14; clear h14
  refine xv_top e16 ?_
  refine ev_istore (pc := 63) (L' := [none, some (.int l1), none, none, none, some (.int (s1 + s0)), some (.int x15)]) (i := 6) (by decide) rfl rfl dX4_behind_63 ?_
  refine ev_iload (pc := 65) (i := 6) rfl dX4_behind_65 ?_
  refine ev_if_ne (pc := 67) (tgt := 74) (by decide) dX4_behind_67 (fun c18 => ?_) (fun c18 => ?_)
  · replace h17 := qi_f h17 c18
    refine ev_iload (pc := 74) (i := 6) rfl dX4_behind_74 ?_
    exact ev_ireturn (pc := 76) rfl (nar_int _) (qRI_eq h17) dX4_behind_76
  · replace h17 := qi_t h17 c18
    refine ev_iconst (pc := 70) (v := -1) (by decide) dX4_behind_70 ?_
    refine ev_goto (pc := 71) (tgt := 76) (by decide) dX4_behind_71 ?_
    exact ev_ireturn (pc := 76) rfl (nar_int _) (qRI_eq h17) dX4_behind_76
theorem e_X4_behind_28 {X : gk_X} {F : Nat} {l0 : Int32} {l1 : Int32} {l2 : Int32} {s0 : Int32} {S : gk_S} {r : (Int32 × gk_S)} (h0 : f_X4_behind_28 F l0 l1 l2 s0 S = some r) : EvW X m_X4_behind 2 0 0 28 [some (.int l0), some (.int l1), some (.int l2), none, none, none, none] [.int s0] S (qRI r) := by
  unfold f_X4_behind_28 at h0
  refine ev_istore (pc := 28) (L' := [some (.int l0), some (.int l1), some (.int l2), none, some (.int s0), none, none]) (i := 4) (by decide) rfl rfl dX4_behind_28 ?_
  refine ev_iconst (pc := 30) (v := 2) (by decide) dX4_behind_30 ?_
  refine ev_iload_n (pc := 31) (i := 0) rfl rfl dX4_behind_31 ?_
  refine ev_iconst (pc := 32) (v := 1) (by decide) dX4_behind_32 ?_
  refine ev_isub (pc := 33)  dX4_behind_33 ?_
  refine ev_imul (pc := 34)  dX4_behind_34 ?_
  refine ev_iload_n (pc := 35) (i := 2) rfl rfl dX4_behind_35 ?_
  refine ev_iload (pc := 36) (i := 4) rfl dX4_behind_36 ?_
  refine ev_ic_ne (pc := 38) (tgt := 45) (by decide) dX4_behind_38 (fun c7 => ?_) (fun c7 => ?_)
  · replace h0 := qi_f h0 c7
    refine ev_iconst (pc := 45) (v := 1) (by decide) dX4_behind_45 ?_
    exact ev_weak (qL_n (qL_s (qL_n (qL_n (qL_n (qL_n (qL_n qL_nil))))))) (e_X4_behind_46 h0)
  · replace h0 := qi_t h0 c7
    refine ev_iconst (pc := 41) (v := 0) (by decide) dX4_behind_41 ?_
    refine ev_goto (pc := 42) (tgt := 46) (by decide) dX4_behind_42 ?_
    exact ev_weak (qL_n (qL_s (qL_n (qL_n (qL_n (qL_n (qL_n qL_nil))))))) (e_X4_behind_46 h0)
theorem e_X4_behind {X : gk_X} {F : Nat} {S : gk_S} {p0 : Int32} {p1 : Int32} {p2 : Int32} {p3 : Int32} {r : (Int32 × gk_S)} (h0 : f_X4_behind F S p0 p1 p2 p3 = some r) : EvM X m_X4_behind 2 0 0 [.int p0, .int p1, .int p2, .int p3] S (qRI r) := by
  unfold f_X4_behind at h0
  refine ev_method (by decide +kernel) rfl rfl (Nat.le_of_ble_eq_true rfl) ?_
  show EvW X m_X4_behind 2 0 0 0 [some (.int p0), some (.int p1), some (.int p2), some (.int p3), none, none, none] [] S _
  refine ev_iload_n (pc := 0) (i := 0) rfl rfl dX4_behind_0 ?_
  refine ev_iconst (pc := 1) (v := 1) (by decide) dX4_behind_1 ?_
  refine ev_ic_lt (pc := 2) (tgt := 11) (by decide) dX4_behind_2 (fun c1 => ?_) (fun c1 => ?_)
  · replace h0 := qi_t h0 c1
    refine ev_iconst (pc := 11) (v := -1) (by decide) dX4_behind_11 ?_
    exact ev_ireturn (pc := 12) rfl (nar_int _) (qRI_eq h0) dX4_behind_12
  · replace h0 := qi_f h0 c1
    refine ev_iload_n (pc := 5) (i := 0) rfl rfl dX4_behind_5 ?_
    refine ev_bipush (pc := 6) (v := 7) (by decide) dX4_behind_6 ?_
    refine ev_ic_le (pc := 8) (tgt := 13) (by decide) dX4_behind_8 (fun c3 => ?_) (fun c3 => ?_)
    · replace h0 := qi_t h0 c3
      refine ev_iload_n (pc := 13) (i := 0) rfl rfl dX4_behind_13 ?_
      refine ev_iconst (pc := 14) (v := 4) (by decide) dX4_behind_14 ?_
      refine ev_ic_eq (pc := 15) (tgt := 23) (by decide) dX4_behind_15 (fun c5 => ?_) (fun c5 => ?_)
      · replace h0 := qi_t h0 c5
        refine ev_iload_n (pc := 23) (i := 3) rfl rfl dX4_behind_23 ?_
        refine ev_goto (pc := 24) (tgt := 28) (by decide) dX4_behind_24 ?_
        exact ev_weak (qL_s (qL_s (qL_s (qL_n (qL_n (qL_n (qL_n qL_nil))))))) (e_X4_behind_28 h0)
      · replace h0 := qi_f h0 c5
        refine ev_iload_n (pc := 18) (i := 0) rfl rfl dX4_behind_18 ?_
        refine ev_iconst (pc := 19) (v := 5) (by decide) dX4_behind_19 ?_
        refine ev_ic_ne (pc := 20) (tgt := 27) (by decide) dX4_behind_20 (fun c20 => ?_) (fun c20 => ?_)
        · replace h0 := qi_f h0 c20
          refine ev_iconst (pc := 27) (v := 1) (by decide) dX4_behind_27 ?_
          exact ev_weak (qL_s (qL_s (qL_s (qL_n (qL_n (qL_n (qL_n qL_nil))))))) (e_X4_behind_28 h0)
        · replace h0 := qi_t h0 c20
          refine ev_iload_n (pc := 23) (i := 3) rfl rfl dX4_behind_23 ?_
          refine ev_goto (pc := 24) (tgt := 28) (by decide) dX4_behind_24 ?_
          exact ev_weak (qL_s (qL_s (qL_s (qL_n (qL_n (qL_n (qL_n qL_nil))))))) (e_X4_behind_28 h0)
    · replace h0 := qi_f h0 c3
      refine ev_iconst (pc := 11) (v := -1) (by decide) dX4_behind_11 ?_
      exact ev_ireturn (pc := 12) rfl (nar_int _) (qRI_eq h0) dX4_behind_12
theorem dX0_phaseBehind_0 : decode cX0_phaseBehind 0 = .ok (.aload_n 0, 1) := by decide +kernel
theorem dX0_phaseBehind_1 : decode cX0_phaseBehind 1 = .ok (.getfield 9, 3) := by decide +kernel
theorem dX0_phaseBehind_4 : decode cX0_phaseBehind 4 = .ok (.bipush 6, 2) := by decide +kernel
theorem dX0_phaseBehind_6 : decode cX0_phaseBehind 6 = .ok (.if_icmp .ne 22, 3) := by decide +kernel
theorem dX0_phaseBehind_9 : decode cX0_phaseBehind 9 = .ok (.aload_n 0, 1) := by decide +kernel
theorem dX0_phaseBehind_10 : decode cX0_phaseBehind 10 = .ok (.getfield 28, 3) := by decide +kernel
theorem dX0_phaseBehind_13 : decode cX0_phaseBehind 13 = .ok (.aload_n 1, 1) := by decide +kernel
theorem dX0_phaseBehind_14 : decode cX0_phaseBehind 14 = .ok (.getfield 57, 3) := by decide +kernel
theorem dX0_phaseBehind_17 : decode cX0_phaseBehind 17 = .ok (.iload_n 2, 1) := by decide +kernel
theorem dX0_phaseBehind_18 : decode cX0_phaseBehind 18 = .ok (.aload_n 0, 1) := by decide +kernel
theorem dX0_phaseBehind_19 : decode cX0_phaseBehind 19 = .ok (.getfield 35, 3) := by decide +kernel
theorem dX0_phaseBehind_22 : decode cX0_phaseBehind 22 = .ok (.invokestatic 60, 3) := by decide +kernel
theorem dX0_phaseBehind_25 : decode cX0_phaseBehind 25 = .ok (.goto 4, 3) := by decide +kernel
theorem dX0_phaseBehind_28 : decode cX0_phaseBehind 28 = .ok (.iconst 0, 1) := by decide +kernel
theorem dX0_phaseBehind_29 : decode cX0_phaseBehind 29 = .ok (.ireturn, 1) := by decide +kernel
theorem e_X0_phaseBehind {X : gk_X} {F : Nat} {S : gk_S} {a : Nat} {p0 : Nat} {p1 : Int32} {r : (Int32 × gk_S)} (h0 : f_X0_phaseBehind F S a p0 p1 = some r) : EvM X m_X0_phaseBehind 3 0 0 [.ref a, .ref p0, .int p1] S (qRI r) := by
  unfold f_X0_phaseBehind at h0
  refine ev_method (by decide +kernel) rfl rfl (Nat.le_of_ble_eq_true rfl) ?_
  show EvW X m_X0_phaseBehind 3 0 0 0 [some (.ref a), some (.ref p0), some (.int p1)] [] S _
  refine ev_aload_n (pc := 0) (i := 0) rfl rfl rfl dX0_phaseBehind_0 ?_
  obtain ⟨g1, h2⟩ := qk_el h0; clear h0
  obtain ⟨x3, e4, h5⟩ := qv_el h2; clear h2
  refine xv_getIv (pc := 1) fn_0 (isb_el g1) e4 gw_207 dX0_phaseBehind_1 ?_
  refine ev_bipush (pc := 4) (v := 6) (by decide) dX0_phaseBehind_4 ?_
  refine ev_ic_ne (pc := 6) (tgt := 28) (by decide) dX0_phaseBehind_6 (fun c6 => ?_) (fun c6 => ?_)
  · replace h5 := qi_f h5 c6
    refine ev_iconst (pc := 28) (v := 0) (by decide) dX0_phaseBehind_28 ?_
    exact ev_ireturn (pc := 29) rfl (nar_int _) (qRI_eq h5) dX0_phaseBehind_29
  · replace h5 := qi_t h5 c6
    refine ev_aload_n (pc := 9) (i := 0) rfl rfl rfl dX0_phaseBehind_9 ?_
    obtain ⟨x8, e9, h10⟩ := qv_el h5; clear h5
    refine xv_getIv (pc := 10) fn_5 (isb_el g1) e9 gw_212 dX0_phaseBehind_10 ?_
    refine ev_aload_n (pc := 13) (i := 1) rfl rfl rfl dX0_phaseBehind_13 ?_
    obtain ⟨g11, h12⟩ := qk_el h10; clear h10
    obtain ⟨x13, e14, h15⟩ := qv_el h12; clear h12
    refine xv_getIv (pc := 14) fn_201 (isb_el g11) e14 gw_273 dX0_phaseBehind_14 ?_
    refine ev_iload_n (pc := 17) (i := 2) rfl rfl dX0_phaseBehind_17 ?_
    refine ev_aload_n (pc := 18) (i := 0) rfl rfl rfl dX0_phaseBehind_18 ?_
    obtain ⟨x16, e17, h18⟩ := qv_el h15; clear h15
    refine xv_getIv (pc := 19) fn_7 (isb_el g1) e17 gw_215 dX0_phaseBehind_19 ?_
    obtain ⟨x19, S20, e21, h22⟩ := qc_el h18; clear h18
    refine xv_callS (pc := 22) (st := []) (as := [.int x8, .int x13, .int p1, .int x16]) (v := (some (.int x19))) (S' := S20) ok_X4_behind (e_X4_behind e21) (by decide) rfl (Nat.le_of_ble_eq_true rfl) rfl gw_969 dX0_phaseBehind_22 ?_
    refine ev_goto (pc := 25) (tgt := 29) (by decide) dX0_phaseBehind_25 ?_
    exact ev_ireturn (pc := 29) rfl (nar_int _) (qRI_eq h22) dX0_phaseBehind_29
theorem dX8_stateOf_0 : decode cX8_stateOf 0 = .ok (.iload_n 2, 1) := by decide +kernel
theorem dX8_stateOf_1 : decode cX8_stateOf 1 = .ok (.iconst (-1), 1) := by decide +kernel
theorem dX8_stateOf_2 : decode cX8_stateOf 2 = .ok (.if_icmp .ne 16, 3) := by decide +kernel
theorem dX8_stateOf_5 : decode cX8_stateOf 5 = .ok (.aload_n 1, 1) := by decide +kernel
theorem dX8_stateOf_6 : decode cX8_stateOf 6 = .ok (.invokestatic 50, 3) := by decide +kernel
theorem dX8_stateOf_9 : decode cX8_stateOf 9 = .ok (.ifCond .eq 7, 3) := by decide +kernel
theorem dX8_stateOf_12 : decode cX8_stateOf 12 = .ok (.iconst 0, 1) := by decide +kernel
theorem dX8_stateOf_13 : decode cX8_stateOf 13 = .ok (.goto 4, 3) := by decide +kernel
theorem dX8_stateOf_16 : decode cX8_stateOf 16 = .ok (.iconst 3, 1) := by decide +kernel
theorem dX8_stateOf_17 : decode cX8_stateOf 17 = .ok (.ireturn, 1) := by decide +kernel
theorem dX8_stateOf_18 : decode cX8_stateOf 18 = .ok (.aload_n 0, 1) := by decide +kernel
theorem dX8_stateOf_19 : decode cX8_stateOf 19 = .ok (.iload_n 2, 1) := by decide +kernel
theorem dX8_stateOf_20 : decode cX8_stateOf 20 = .ok (.invokevirtual 35, 3) := by decide +kernel
theorem dX8_stateOf_23 : decode cX8_stateOf 23 = .ok (.astore_n 3, 1) := by decide +kernel
theorem dX8_stateOf_24 : decode cX8_stateOf 24 = .ok (.aload_n 3, 1) := by decide +kernel
theorem dX8_stateOf_25 : decode cX8_stateOf 25 = .ok (.aload_n 1, 1) := by decide +kernel
theorem dX8_stateOf_26 : decode cX8_stateOf 26 = .ok (.invokevirtual 46, 3) := by decide +kernel
theorem dX8_stateOf_29 : decode cX8_stateOf 29 = .ok (.istore 4, 2) := by decide +kernel
theorem dX8_stateOf_31 : decode cX8_stateOf 31 = .ok (.aload_n 3, 1) := by decide +kernel
theorem dX8_stateOf_32 : decode cX8_stateOf 32 = .ok (.aload_n 1, 1) := by decide +kernel
theorem dX8_stateOf_33 : decode cX8_stateOf 33 = .ok (.iload 4, 2) := by decide +kernel
theorem dX8_stateOf_35 : decode cX8_stateOf 35 = .ok (.invokevirtual 54, 3) := by decide +kernel
theorem dX8_stateOf_38 : decode cX8_stateOf 38 = .ok (.istore 5, 2) := by decide +kernel
theorem dX8_stateOf_40 : decode cX8_stateOf 40 = .ok (.iload 5, 2) := by decide +kernel
theorem dX8_stateOf_42 : decode cX8_stateOf 42 = .ok (.iconst (-1), 1) := by decide +kernel
theorem dX8_stateOf_43 : decode cX8_stateOf 43 = .ok (.if_icmp .ne 5, 3) := by decide +kernel
theorem dX8_stateOf_46 : decode cX8_stateOf 46 = .ok (.iconst 3, 1) := by decide +kernel
theorem dX8_stateOf_47 : decode cX8_stateOf 47 = .ok (.ireturn, 1) := by decide +kernel
theorem dX8_stateOf_48 : decode cX8_stateOf 48 = .ok (.iload 5, 2) := by decide +kernel
theorem dX8_stateOf_50 : decode cX8_stateOf 50 = .ok (.iconst 1, 1) := by decide +kernel
theorem dX8_stateOf_51 : decode cX8_stateOf 51 = .ok (.if_icmp .ne 5, 3) := by decide +kernel
theorem dX8_stateOf_54 : decode cX8_stateOf 54 = .ok (.iconst 0, 1) := by decide +kernel
theorem dX8_stateOf_55 : decode cX8_stateOf 55 = .ok (.ireturn, 1) := by decide +kernel
theorem dX8_stateOf_56 : decode cX8_stateOf 56 = .ok (.aload_n 3, 1) := by decide +kernel
theorem dX8_stateOf_57 : decode cX8_stateOf 57 = .ok (.getfield 60, 3) := by decide +kernel
theorem dX8_stateOf_60 : decode cX8_stateOf 60 = .ok (.ifCond .ne 9, 3) := by decide +kernel
theorem dX8_stateOf_63 : decode cX8_stateOf 63 = .ok (.iload 4, 2) := by decide +kernel
theorem dX8_stateOf_65 : decode cX8_stateOf 65 = .ok (.iconst 2, 1) := by decide +kernel
theorem dX8_stateOf_66 : decode cX8_stateOf 66 = .ok (.if_icmp .ne 7, 3) := by decide +kernel
theorem dX8_stateOf_69 : decode cX8_stateOf 69 = .ok (.iconst 1, 1) := by decide +kernel
theorem dX8_stateOf_70 : decode cX8_stateOf 70 = .ok (.goto 4, 3) := by decide +kernel
theorem dX8_stateOf_73 : decode cX8_stateOf 73 = .ok (.iconst 0, 1) := by decide +kernel
theorem dX8_stateOf_74 : decode cX8_stateOf 74 = .ok (.ireturn, 1) := by decide +kernel
theorem e_X8_stateOf {X : gk_X} {F : Nat} {S : gk_S} {a : Nat} {p0 : Nat} {p1 : Int32} {r : (Int32 × gk_S)} (h0 : f_X8_stateOf F S a p0 p1 = some r) : EvM X m_X8_stateOf 4 0 0 [.ref a, .ref p0, .int p1] S (qRI r) := by
  unfold f_X8_stateOf at h0
  refine ev_method (by decide +kernel) rfl rfl (Nat.le_of_ble_eq_true rfl) ?_
  show EvW X m_X8_stateOf 4 0 0 0 [some (.ref a), some (.ref p0), some (.int p1), none, none, none] [] S _
  refine ev_iload_n (pc := 0) (i := 2) rfl rfl dX8_stateOf_0 ?_
  refine ev_iconst (pc := 1) (v := -1) (by decide) dX8_stateOf_1 ?_
  refine ev_ic_ne (pc := 2) (tgt := 18) (by decide) dX8_stateOf_2 (fun c1 => ?_) (fun c1 => ?_)
  · replace h0 := qi_f h0 c1
    refine ev_aload_n (pc := 18) (i := 0) rfl rfl rfl dX8_stateOf_18 ?_
    refine ev_iload_n (pc := 19) (i := 2) rfl rfl dX8_stateOf_19 ?_
    obtain ⟨g3, h4⟩ := qk_el h0; clear h0
    obtain ⟨x5, S6, e7, h8⟩ := qc_el h4; clear h4
    refine xv_callV (pc := 20) (st := []) (as := [.int p1]) (v := (some (.ref x5))) (S' := S6) ok_X8_at (e_X8_at e7) (isb_el g3) (by decide) rfl (Nat.le_of_ble_eq_true rfl) rfl gw_358 dX8_stateOf_20 ?_
    refine ev_astore_n (pc := 23) (L' := [some (.ref a), some (.ref p0), some (.int p1), some (.ref x5), none, none]) (i := 3) rfl (by decide) rfl rfl rfl dX8_stateOf_23 ?_
    refine ev_aload_n (pc := 24) (i := 3) rfl rfl rfl dX8_stateOf_24 ?_
    refine ev_aload_n (pc := 25) (i := 1) rfl rfl rfl dX8_stateOf_25 ?_
    obtain ⟨g9, h10⟩ := qk_el h8; clear h8
    obtain ⟨x11, S12, e13, h14⟩ := qc_el h10; clear h10
    refine xv_callV (pc := 26) (st := []) (as := [.ref p0]) (v := (some (.int x11))) (S' := S12) ok_X0_sideOf (e_X0_sideOf e13) (isb_el g9) (by decide) rfl (Nat.le_of_ble_eq_true rfl) rfl gw_944 dX8_stateOf_26 ?_
    refine ev_istore (pc := 29) (L' := [some (.ref a), some (.ref p0), some (.int p1), some (.ref x5), some (.int x11), none]) (i := 4) (by decide) rfl rfl dX8_stateOf_29 ?_
    refine ev_aload_n (pc := 31) (i := 3) rfl rfl rfl dX8_stateOf_31 ?_
    refine ev_aload_n (pc := 32) (i := 1) rfl rfl rfl dX8_stateOf_32 ?_
    refine ev_iload (pc := 33) (i := 4) rfl dX8_stateOf_33 ?_
    obtain ⟨g15, h16⟩ := qk_el h14; clear h14
    obtain ⟨x17, S18, e19, h20⟩ := qc_el h16; clear h16
    refine xv_callV (pc := 35) (st := []) (as := [.ref p0, .int x11]) (v := (some (.int x17))) (S' := S18) ok_X0_phaseBehind (e_X0_phaseBehind e19) (isb_el g15) (by decide) rfl (Nat.le_of_ble_eq_true rfl) rfl gw_965 dX8_stateOf_35 ?_
    refine ev_istore (pc := 38) (L' := [some (.ref a), some (.ref p0), some (.int p1), some (.ref x5), some (.int x11), some (.int x17)]) (i := 5) (by decide) rfl rfl dX8_stateOf_38 ?_
    refine ev_iload (pc := 40) (i := 5) rfl dX8_stateOf_40 ?_
    refine ev_iconst (pc := 42) (v := -1) (by decide) dX8_stateOf_42 ?_
    refine ev_ic_ne (pc := 43) (tgt := 48) (by decide) dX8_stateOf_43 (fun c21 => ?_) (fun c21 => ?_)
    · replace h20 := qi_f h20 c21
      refine ev_iload (pc := 48) (i := 5) rfl dX8_stateOf_48 ?_
      refine ev_iconst (pc := 50) (v := 1) (by decide) dX8_stateOf_50 ?_
      refine ev_ic_ne (pc := 51) (tgt := 56) (by decide) dX8_stateOf_51 (fun c23 => ?_) (fun c23 => ?_)
      · replace h20 := qi_f h20 c23
        refine ev_aload_n (pc := 56) (i := 3) rfl rfl rfl dX8_stateOf_56 ?_
        obtain ⟨g25, h26⟩ := qk_el h20; clear h20
        obtain ⟨x27, e28, h29⟩ := qv_el h26; clear h26
        refine xv_getIv (pc := 57) fn_6 (isb_el g25) e28 gw_214 dX8_stateOf_57 ?_
        refine ev_if_ne (pc := 60) (tgt := 69) (by decide) dX8_stateOf_60 (fun c30 => ?_) (fun c30 => ?_)
        · replace h29 := qi_f h29 c30
          refine ev_iconst (pc := 69) (v := 1) (by decide) dX8_stateOf_69 ?_
          refine ev_goto (pc := 70) (tgt := 74) (by decide) dX8_stateOf_70 ?_
          exact ev_ireturn (pc := 74) rfl (nar_int _) (qRI_eq h29) dX8_stateOf_74
        · replace h29 := qi_t h29 c30
          refine ev_iload (pc := 63) (i := 4) rfl dX8_stateOf_63 ?_
          refine ev_iconst (pc := 65) (v := 2) (by decide) dX8_stateOf_65 ?_
          refine ev_ic_ne (pc := 66) (tgt := 73) (by decide) dX8_stateOf_66 (fun c32 => ?_) (fun c32 => ?_)
          · replace h29 := qi_f h29 c32
            refine ev_iconst (pc := 73) (v := 0) (by decide) dX8_stateOf_73 ?_
            exact ev_ireturn (pc := 74) rfl (nar_int _) (qRI_eq h29) dX8_stateOf_74
          · replace h29 := qi_t h29 c32
            refine ev_iconst (pc := 69) (v := 1) (by decide) dX8_stateOf_69 ?_
            refine ev_goto (pc := 70) (tgt := 74) (by decide) dX8_stateOf_70 ?_
            exact ev_ireturn (pc := 74) rfl (nar_int _) (qRI_eq h29) dX8_stateOf_74
      · replace h20 := qi_t h20 c23
        refine ev_iconst (pc := 54) (v := 0) (by decide) dX8_stateOf_54 ?_
        exact ev_ireturn (pc := 55) rfl (nar_int _) (qRI_eq h20) dX8_stateOf_55
    · replace h20 := qi_t h20 c21
      refine ev_iconst (pc := 46) (v := 3) (by decide) dX8_stateOf_46 ?_
      exact ev_ireturn (pc := 47) rfl (nar_int _) (qRI_eq h20) dX8_stateOf_47
  · replace h0 := qi_t h0 c1
    refine ev_aload_n (pc := 5) (i := 1) rfl rfl rfl dX8_stateOf_5 ?_
    obtain ⟨x34, S35, e36, h37⟩ := qc_el h0; clear h0
    refine xv_callS (pc := 6) (st := []) (as := [.ref p0]) (v := (some (.int x34))) (S' := S35) ok_X8_mayBegin (e_X8_mayBegin e36) (by decide) rfl (Nat.le_of_ble_eq_true rfl) rfl gw_960 dX8_stateOf_6 ?_
    refine ev_if_eq (pc := 9) (tgt := 16) (by decide) dX8_stateOf_9 (fun c38 => ?_) (fun c38 => ?_)
    · replace h37 := qi_t h37 c38
      refine ev_iconst (pc := 16) (v := 3) (by decide) dX8_stateOf_16 ?_
      exact ev_ireturn (pc := 17) rfl (nar_int _) (qRI_eq h37) dX8_stateOf_17
    · replace h37 := qi_f h37 c38
      refine ev_iconst (pc := 12) (v := 0) (by decide) dX8_stateOf_12 ?_
      refine ev_goto (pc := 13) (tgt := 17) (by decide) dX8_stateOf_13 ?_
      exact ev_ireturn (pc := 17) rfl (nar_int _) (qRI_eq h37) dX8_stateOf_17
theorem dX5_takes_0 : decode cX5_takes 0 = .ok (.iconst 0, 1) := by decide +kernel
theorem dX5_takes_1 : decode cX5_takes 1 = .ok (.istore_n 3, 1) := by decide +kernel
theorem dX5_takes_2 : decode cX5_takes 2 = .ok (.iload_n 3, 1) := by decide +kernel
theorem dX5_takes_3 : decode cX5_takes 3 = .ok (.bipush 6, 2) := by decide +kernel
theorem dX5_takes_5 : decode cX5_takes 5 = .ok (.if_icmp .ge 43, 3) := by decide +kernel
theorem dX5_takes_8 : decode cX5_takes 8 = .ok (.aload_n 1, 1) := by decide +kernel
theorem dX5_takes_9 : decode cX5_takes 9 = .ok (.getfield 31, 3) := by decide +kernel
theorem dX5_takes_12 : decode cX5_takes 12 = .ok (.iload_n 3, 1) := by decide +kernel
theorem dX5_takes_13 : decode cX5_takes 13 = .ok (.laload, 1) := by decide +kernel
theorem dX5_takes_14 : decode cX5_takes 14 = .ok (.aload_n 0, 1) := by decide +kernel
theorem dX5_takes_15 : decode cX5_takes 15 = .ok (.getfield 9, 3) := by decide +kernel
theorem dX5_takes_18 : decode cX5_takes 18 = .ok (.iload_n 3, 1) := by decide +kernel
theorem dX5_takes_19 : decode cX5_takes 19 = .ok (.laload, 1) := by decide +kernel
theorem dX5_takes_20 : decode cX5_takes 20 = .ok (.lcmp, 1) := by decide +kernel
theorem dX5_takes_21 : decode cX5_takes 21 = .ok (.ifCond .lt 19, 3) := by decide +kernel
theorem dX5_takes_24 : decode cX5_takes 24 = .ok (.aload_n 1, 1) := by decide +kernel
theorem dX5_takes_25 : decode cX5_takes 25 = .ok (.getfield 31, 3) := by decide +kernel
theorem dX5_takes_28 : decode cX5_takes 28 = .ok (.iload_n 3, 1) := by decide +kernel
theorem dX5_takes_29 : decode cX5_takes 29 = .ok (.laload, 1) := by decide +kernel
theorem dX5_takes_30 : decode cX5_takes 30 = .ok (.aload_n 0, 1) := by decide +kernel
theorem dX5_takes_31 : decode cX5_takes 31 = .ok (.getfield 15, 3) := by decide +kernel
theorem dX5_takes_34 : decode cX5_takes 34 = .ok (.iload_n 3, 1) := by decide +kernel
theorem dX5_takes_35 : decode cX5_takes 35 = .ok (.laload, 1) := by decide +kernel
theorem dX5_takes_36 : decode cX5_takes 36 = .ok (.lcmp, 1) := by decide +kernel
theorem dX5_takes_37 : decode cX5_takes 37 = .ok (.ifCond .le 5, 3) := by decide +kernel
theorem dX5_takes_40 : decode cX5_takes 40 = .ok (.iconst 0, 1) := by decide +kernel
theorem dX5_takes_41 : decode cX5_takes 41 = .ok (.ireturn, 1) := by decide +kernel
theorem dX5_takes_42 : decode cX5_takes 42 = .ok (.iinc 3 1, 3) := by decide +kernel
theorem dX5_takes_45 : decode cX5_takes 45 = .ok (.goto (-43), 3) := by decide +kernel
theorem dX5_takes_48 : decode cX5_takes 48 = .ok (.aload_n 0, 1) := by decide +kernel
theorem dX5_takes_49 : decode cX5_takes 49 = .ok (.iload_n 2, 1) := by decide +kernel
theorem dX5_takes_50 : decode cX5_takes 50 = .ok (.invokevirtual 36, 3) := by decide +kernel
theorem dX5_takes_53 : decode cX5_takes 53 = .ok (.ireturn, 1) := by decide +kernel
theorem e_X5_takes_2 {X : gk_X} {F : Nat} : ∀ (n : Nat) (l0 : Nat) (l1 : Nat) (l2 : Int32) (l3 : Int32) (S : gk_S) (r : (Int32 × gk_S)), f_X5_takes_2 F n l0 l1 l2 l3 S = some r → EvW X m_X5_takes 2 0 0 2 [some (.ref l0), some (.ref l1), some (.int l2), some (.int l3)] [] S (qRI r) := by
  intro n
  induction n with
  | zero => intro l0 l1 l2 l3 S r h0; rw [f_X5_takes_2] at h0; cases h0
  | succ n ih =>
    intro l0 l1 l2 l3 S r h0; rw [f_X5_takes_2] at h0
    refine ev_iload_n (pc := 2) (i := 3) rfl rfl dX5_takes_2 ?_
    refine ev_bipush (pc := 3) (v := 6) (by decide) dX5_takes_3 ?_
    refine ev_ic_ge (pc := 5) (tgt := 48) (by decide) dX5_takes_5 (fun c1 => ?_) (fun c1 => ?_)
    · replace h0 := qi_t h0 c1
      refine ev_aload_n (pc := 48) (i := 0) rfl rfl rfl dX5_takes_48 ?_
      refine ev_iload_n (pc := 49) (i := 2) rfl rfl dX5_takes_49 ?_
      obtain ⟨g3, h4⟩ := qk_el h0; clear h0
      obtain ⟨x5, S6, e7, h8⟩ := qc_el h4; clear h4
      refine xv_callV (pc := 50) (st := []) (as := [.int l2]) (v := (some (.int x5))) (S' := S6) ok_X5_hasState (e_X5_hasState e7) (isb_el g3) (by decide) rfl (Nat.le_of_ble_eq_true rfl) rfl gw_808 dX5_takes_50 ?_
      obtain ⟨g9, h10⟩ := qk_el h8; clear h8
      exact ev_ireturn (pc := 53) rfl (zb_nar g9) (qRI_eq h10) dX5_takes_53
    · replace h0 := qi_f h0 c1
      refine ev_aload_n (pc := 8) (i := 1) rfl rfl rfl dX5_takes_8 ?_
      obtain ⟨g11, h12⟩ := qk_el h0; clear h0
      obtain ⟨b13, e14, h15⟩ := qP_el h12; clear h12
      refine xv_getP (pc := 9) fn_200 (isb_el g11) e14 gw_270 dX5_takes_9 ?_
      refine ev_iload_n (pc := 12) (i := 3) rfl rfl dX5_takes_12 ?_
      obtain ⟨g16, h17⟩ := qk_el h15; clear h15
      obtain ⟨g18, h19⟩ := qk_el h17; clear h17
      obtain ⟨x20, e21, h22⟩ := qv_el h19; clear h19
      refine yv_lald (pc := 13) (isb_el g16) (inb_el g18) e21 dX5_takes_13 ?_
      refine ev_aload_n (pc := 14) (i := 0) rfl rfl rfl dX5_takes_14 ?_
      obtain ⟨g23, h24⟩ := qk_el h22; clear h22
      obtain ⟨b25, e26, h27⟩ := qP_el h24; clear h24
      refine xv_getP (pc := 15) fn_300 (isb_el g23) e26 gw_64 dX5_takes_15 ?_
      refine ev_iload_n (pc := 18) (i := 3) rfl rfl dX5_takes_18 ?_
      obtain ⟨g28, h29⟩ := qk_el h27; clear h27
      obtain ⟨g30, h31⟩ := qk_el h29; clear h29
      obtain ⟨x32, e33, h34⟩ := qv_el h31; clear h31
      refine yv_lald (pc := 19) (isb_el g28) (inb_el g30) e33 dX5_takes_19 ?_
      refine ev_lcmp (pc := 20)  dX5_takes_20 ?_
      refine ev_if_lt (pc := 21) (tgt := 40) (by decide) dX5_takes_21 (fun c35 => ?_) (fun c35 => ?_)
      · replace h34 := qi_t h34 (lc_lt c35)
        refine ev_iconst (pc := 40) (v := 0) (by decide) dX5_takes_40 ?_
        exact ev_ireturn (pc := 41) rfl rfl (qRI_eq h34) dX5_takes_41
      · replace h34 := qi_f h34 (lc_ltN c35)
        refine ev_aload_n (pc := 24) (i := 1) rfl rfl rfl dX5_takes_24 ?_
        obtain ⟨b37, e38, h39⟩ := qP_el h34; clear h34
        refine xv_getP (pc := 25) fn_200 (isb_el g11) e38 gw_270 dX5_takes_25 ?_
        refine ev_iload_n (pc := 28) (i := 3) rfl rfl dX5_takes_28 ?_
        obtain ⟨g40, h41⟩ := qk_el h39; clear h39
        obtain ⟨g42, h43⟩ := qk_el h41; clear h41
        obtain ⟨x44, e45, h46⟩ := qv_el h43; clear h43
        refine yv_lald (pc := 29) (isb_el g40) (inb_el g42) e45 dX5_takes_29 ?_
        refine ev_aload_n (pc := 30) (i := 0) rfl rfl rfl dX5_takes_30 ?_
        obtain ⟨b47, e48, h49⟩ := qP_el h46; clear h46
        refine xv_getP (pc := 31) fn_301 (isb_el g23) e48 gw_67 dX5_takes_31 ?_
        refine ev_iload_n (pc := 34) (i := 3) rfl rfl dX5_takes_34 ?_
        obtain ⟨g50, h51⟩ := qk_el h49; clear h49
        obtain ⟨g52, h53⟩ := qk_el h51; clear h51
        obtain ⟨x54, e55, h56⟩ := qv_el h53; clear h53
        refine yv_lald (pc := 35) (isb_el g50) (inb_el g52) e55 dX5_takes_35 ?_
        refine ev_lcmp (pc := 36)  dX5_takes_36 ?_
        refine ev_if_le (pc := 37) (tgt := 42) (by decide) dX5_takes_37 (fun c57 => ?_) (fun c57 => ?_)
        · replace h56 := qi_t h56 (lc_le c57)
          refine ev_iinc (pc := 42) (L' := [some (.ref l0), some (.ref l1), some (.int l2), some (.int (l3 + 1))]) (i := 3) (v := (l3 + 1)) rfl rfl (by decide) rfl rfl dX5_takes_42 ?_
          refine ev_goto (pc := 45) (tgt := 2) (by decide) dX5_takes_45 ?_
          exact (ev_weak (qL_s (qL_s (qL_s (qL_s qL_nil)))) (ih _ _ _ _ _ _ h56))
        · replace h56 := qi_f h56 (lc_leN c57)
          refine ev_iconst (pc := 40) (v := 0) (by decide) dX5_takes_40 ?_
          exact ev_ireturn (pc := 41) rfl rfl (qRI_eq h56) dX5_takes_41
theorem e_X5_takes {X : gk_X} {F : Nat} {S : gk_S} {a : Nat} {p0 : Nat} {p1 : Int32} {r : (Int32 × gk_S)} (h0 : f_X5_takes F S a p0 p1 = some r) : EvM X m_X5_takes 2 0 0 [.ref a, .ref p0, .int p1] S (qRI r) := by
  unfold f_X5_takes at h0
  refine ev_method (by decide +kernel) rfl rfl (Nat.le_of_ble_eq_true rfl) ?_
  show EvW X m_X5_takes 2 0 0 0 [some (.ref a), some (.ref p0), some (.int p1), none] [] S _
  refine ev_iconst (pc := 0) (v := 0) (by decide) dX5_takes_0 ?_
  refine ev_istore_n (pc := 1) (L' := [some (.ref a), some (.ref p0), some (.int p1), some (.int 0)]) (i := 3) rfl (by decide) rfl rfl dX5_takes_1 ?_
  exact ev_weak (qL_s (qL_s (qL_s (qL_s qL_nil)))) (e_X5_takes_2 F _ _ _ _ _ _ h0)
theorem dX6_firstFor_0 : decode cX6_firstFor 0 = .ok (.iconst 0, 1) := by decide +kernel
theorem dX6_firstFor_1 : decode cX6_firstFor 1 = .ok (.istore_n 3, 1) := by decide +kernel
theorem dX6_firstFor_2 : decode cX6_firstFor 2 = .ok (.iload_n 3, 1) := by decide +kernel
theorem dX6_firstFor_3 : decode cX6_firstFor 3 = .ok (.aload_n 0, 1) := by decide +kernel
theorem dX6_firstFor_4 : decode cX6_firstFor 4 = .ok (.getfield 18, 3) := by decide +kernel
theorem dX6_firstFor_7 : decode cX6_firstFor 7 = .ok (.if_icmp .ge 31, 3) := by decide +kernel
theorem dX6_firstFor_10 : decode cX6_firstFor 10 = .ok (.iload_n 3, 1) := by decide +kernel
theorem dX6_firstFor_11 : decode cX6_firstFor 11 = .ok (.bipush 16, 2) := by decide +kernel
theorem dX6_firstFor_13 : decode cX6_firstFor 13 = .ok (.if_icmp .ge 25, 3) := by decide +kernel
theorem dX6_firstFor_16 : decode cX6_firstFor 16 = .ok (.aload_n 0, 1) := by decide +kernel
theorem dX6_firstFor_17 : decode cX6_firstFor 17 = .ok (.getfield 11, 3) := by decide +kernel
theorem dX6_firstFor_20 : decode cX6_firstFor 20 = .ok (.iload_n 3, 1) := by decide +kernel
theorem dX6_firstFor_21 : decode cX6_firstFor 21 = .ok (.aaload, 1) := by decide +kernel
theorem dX6_firstFor_22 : decode cX6_firstFor 22 = .ok (.aload_n 1, 1) := by decide +kernel
theorem dX6_firstFor_23 : decode cX6_firstFor 23 = .ok (.iload_n 2, 1) := by decide +kernel
theorem dX6_firstFor_24 : decode cX6_firstFor 24 = .ok (.invokevirtual 39, 3) := by decide +kernel
theorem dX6_firstFor_27 : decode cX6_firstFor 27 = .ok (.ifCond .eq 5, 3) := by decide +kernel
theorem dX6_firstFor_30 : decode cX6_firstFor 30 = .ok (.iload_n 3, 1) := by decide +kernel
theorem dX6_firstFor_31 : decode cX6_firstFor 31 = .ok (.ireturn, 1) := by decide +kernel
theorem dX6_firstFor_32 : decode cX6_firstFor 32 = .ok (.iinc 3 1, 3) := by decide +kernel
theorem dX6_firstFor_35 : decode cX6_firstFor 35 = .ok (.goto (-33), 3) := by decide +kernel
theorem dX6_firstFor_38 : decode cX6_firstFor 38 = .ok (.iconst (-1), 1) := by decide +kernel
theorem dX6_firstFor_39 : decode cX6_firstFor 39 = .ok (.ireturn, 1) := by decide +kernel
theorem e_X6_firstFor_2 {X : gk_X} {F : Nat} : ∀ (n : Nat) (l0 : Nat) (l1 : Nat) (l2 : Int32) (l3 : Int32) (S : gk_S) (r : (Int32 × gk_S)), f_X6_firstFor_2 F n l0 l1 l2 l3 S = some r → EvW X m_X6_firstFor 3 0 0 2 [some (.ref l0), some (.ref l1), some (.int l2), some (.int l3)] [] S (qRI r) := by
  intro n
  induction n with
  | zero => intro l0 l1 l2 l3 S r h0; rw [f_X6_firstFor_2] at h0; cases h0
  | succ n ih =>
    intro l0 l1 l2 l3 S r h0; rw [f_X6_firstFor_2] at h0
    refine ev_iload_n (pc := 2) (i := 3) rfl rfl dX6_firstFor_2 ?_
    refine ev_aload_n (pc := 3) (i := 0) rfl rfl rfl dX6_firstFor_3 ?_
    obtain ⟨g1, h2⟩ := qk_el h0; clear h0
    obtain ⟨x3, e4, h5⟩ := qv_el h2; clear h2
    refine xv_getIv (pc := 4) fn_401 (isb_el g1) e4 gw_91 dX6_firstFor_4 ?_
    refine ev_ic_ge (pc := 7) (tgt := 38) (by decide) dX6_firstFor_7 (fun c6 => ?_) (fun c6 => ?_)
    · replace h5 := qi_t h5 c6
      refine ev_iconst (pc := 38) (v := -1) (by decide) dX6_firstFor_38 ?_
      exact ev_ireturn (pc := 39) rfl (nar_int _) (qRI_eq h5) dX6_firstFor_39
    · replace h5 := qi_f h5 c6
      refine ev_iload_n (pc := 10) (i := 3) rfl rfl dX6_firstFor_10 ?_
      refine ev_bipush (pc := 11) (v := 16) (by decide) dX6_firstFor_11 ?_
      refine ev_ic_ge (pc := 13) (tgt := 38) (by decide) dX6_firstFor_13 (fun c8 => ?_) (fun c8 => ?_)
      · replace h5 := qi_t h5 c8
        refine ev_iconst (pc := 38) (v := -1) (by decide) dX6_firstFor_38 ?_
        exact ev_ireturn (pc := 39) rfl (nar_int _) (qRI_eq h5) dX6_firstFor_39
      · replace h5 := qi_f h5 c8
        refine ev_aload_n (pc := 16) (i := 0) rfl rfl rfl dX6_firstFor_16 ?_
        obtain ⟨b10, e11, h12⟩ := qP_el h5; clear h5
        refine xv_getP (pc := 17) fn_400 (isb_el g1) e11 gw_90 dX6_firstFor_17 ?_
        refine ev_iload_n (pc := 20) (i := 3) rfl rfl dX6_firstFor_20 ?_
        obtain ⟨g13, h14⟩ := qk_el h12; clear h12
        obtain ⟨g15, h16⟩ := qk_el h14; clear h14
        obtain ⟨b17, e18, h19⟩ := qP_el h16; clear h16
        refine yv_aald (pc := 21) (isb_el g13) (by decide) (inb_el g15) e18 dX6_firstFor_21 ?_
        refine ev_aload_n (pc := 22) (i := 1) rfl rfl rfl dX6_firstFor_22 ?_
        refine ev_iload_n (pc := 23) (i := 2) rfl rfl dX6_firstFor_23 ?_
        obtain ⟨g20, h21⟩ := qk_el h19; clear h19
        obtain ⟨x22, S23, e24, h25⟩ := qc_el h21; clear h21
        refine xv_callV (pc := 24) (st := []) (as := [.ref l1, .int l2]) (v := (some (.int x22))) (S' := S23) ok_X5_takes (e_X5_takes e24) (isb_el g20) (by decide) rfl (Nat.le_of_ble_eq_true rfl) rfl gw_804 dX6_firstFor_24 ?_
        refine ev_if_eq (pc := 27) (tgt := 32) (by decide) dX6_firstFor_27 (fun c26 => ?_) (fun c26 => ?_)
        · replace h25 := qi_t h25 c26
          refine ev_iinc (pc := 32) (L' := [some (.ref l0), some (.ref l1), some (.int l2), some (.int (l3 + 1))]) (i := 3) (v := (l3 + 1)) rfl rfl (by decide) rfl rfl dX6_firstFor_32 ?_
          refine ev_goto (pc := 35) (tgt := 2) (by decide) dX6_firstFor_35 ?_
          exact (ev_weak (qL_s (qL_s (qL_s (qL_s qL_nil)))) (ih _ _ _ _ _ _ h25))
        · replace h25 := qi_f h25 c26
          refine ev_iload_n (pc := 30) (i := 3) rfl rfl dX6_firstFor_30 ?_
          exact ev_ireturn (pc := 31) rfl (nar_int _) (qRI_eq h25) dX6_firstFor_31
theorem e_X6_firstFor {X : gk_X} {F : Nat} {S : gk_S} {a : Nat} {p0 : Nat} {p1 : Int32} {r : (Int32 × gk_S)} (h0 : f_X6_firstFor F S a p0 p1 = some r) : EvM X m_X6_firstFor 3 0 0 [.ref a, .ref p0, .int p1] S (qRI r) := by
  unfold f_X6_firstFor at h0
  refine ev_method (by decide +kernel) rfl rfl (Nat.le_of_ble_eq_true rfl) ?_
  show EvW X m_X6_firstFor 3 0 0 0 [some (.ref a), some (.ref p0), some (.int p1), none] [] S _
  refine ev_iconst (pc := 0) (v := 0) (by decide) dX6_firstFor_0 ?_
  refine ev_istore_n (pc := 1) (L' := [some (.ref a), some (.ref p0), some (.int p1), some (.int 0)]) (i := 3) rfl (by decide) rfl rfl dX6_firstFor_1 ?_
  exact ev_weak (qL_s (qL_s (qL_s (qL_s qL_nil)))) (e_X6_firstFor_2 F _ _ _ _ _ _ h0)
theorem dX6_tell_0 : decode cX6_tell 0 = .ok (.aload_n 0, 1) := by decide +kernel
theorem dX6_tell_1 : decode cX6_tell 1 = .ok (.aload_n 1, 1) := by decide +kernel
theorem dX6_tell_2 : decode cX6_tell 2 = .ok (.iload_n 2, 1) := by decide +kernel
theorem dX6_tell_3 : decode cX6_tell 3 = .ok (.invokevirtual 43, 3) := by decide +kernel
theorem dX6_tell_6 : decode cX6_tell 6 = .ok (.istore_n 3, 1) := by decide +kernel
theorem dX6_tell_7 : decode cX6_tell 7 = .ok (.iload_n 3, 1) := by decide +kernel
theorem dX6_tell_8 : decode cX6_tell 8 = .ok (.iconst (-1), 1) := by decide +kernel
theorem dX6_tell_9 : decode cX6_tell 9 = .ok (.if_icmp .ne 18, 3) := by decide +kernel
theorem dX6_tell_12 : decode cX6_tell 12 = .ok (.aload_n 0, 1) := by decide +kernel
theorem dX6_tell_13 : decode cX6_tell 13 = .ok (.dup, 1) := by decide +kernel
theorem dX6_tell_14 : decode cX6_tell 14 = .ok (.getfield 25, 3) := by decide +kernel
theorem dX6_tell_17 : decode cX6_tell 17 = .ok (.iconst 1, 1) := by decide +kernel
theorem dX6_tell_18 : decode cX6_tell 18 = .ok (.iadd, 1) := by decide +kernel
theorem dX6_tell_19 : decode cX6_tell 19 = .ok (.putfield 25, 3) := by decide +kernel
theorem dX6_tell_22 : decode cX6_tell 22 = .ok (.aload_n 0, 1) := by decide +kernel
theorem dX6_tell_23 : decode cX6_tell 23 = .ok (.getfield 22, 3) := by decide +kernel
theorem dX6_tell_26 : decode cX6_tell 26 = .ok (.ireturn, 1) := by decide +kernel
theorem dX6_tell_27 : decode cX6_tell 27 = .ok (.aload_n 0, 1) := by decide +kernel
theorem dX6_tell_28 : decode cX6_tell 28 = .ok (.iload_n 3, 1) := by decide +kernel
theorem dX6_tell_29 : decode cX6_tell 29 = .ok (.invokevirtual 31, 3) := by decide +kernel
theorem dX6_tell_32 : decode cX6_tell 32 = .ok (.dup, 1) := by decide +kernel
theorem dX6_tell_33 : decode cX6_tell 33 = .ok (.getfield 47, 3) := by decide +kernel
theorem dX6_tell_36 : decode cX6_tell 36 = .ok (.iconst 1, 1) := by decide +kernel
theorem dX6_tell_37 : decode cX6_tell 37 = .ok (.iadd, 1) := by decide +kernel
theorem dX6_tell_38 : decode cX6_tell 38 = .ok (.putfield 47, 3) := by decide +kernel
theorem dX6_tell_41 : decode cX6_tell 41 = .ok (.aload_n 0, 1) := by decide +kernel
theorem dX6_tell_42 : decode cX6_tell 42 = .ok (.iload_n 3, 1) := by decide +kernel
theorem dX6_tell_43 : decode cX6_tell 43 = .ok (.invokevirtual 31, 3) := by decide +kernel
theorem dX6_tell_46 : decode cX6_tell 46 = .ok (.getfield 50, 3) := by decide +kernel
theorem dX6_tell_49 : decode cX6_tell 49 = .ok (.ireturn, 1) := by decide +kernel
theorem e_X6_tell {X : gk_X} {F : Nat} {S : gk_S} {a : Nat} {p0 : Nat} {p1 : Int32} {r : (Int32 × gk_S)} (h0 : f_X6_tell F S a p0 p1 = some r) : EvM X m_X6_tell 4 0 0 [.ref a, .ref p0, .int p1] S (qRI r) := by
  unfold f_X6_tell at h0
  refine ev_method (by decide +kernel) rfl rfl (Nat.le_of_ble_eq_true rfl) ?_
  show EvW X m_X6_tell 4 0 0 0 [some (.ref a), some (.ref p0), some (.int p1), none] [] S _
  refine ev_aload_n (pc := 0) (i := 0) rfl rfl rfl dX6_tell_0 ?_
  refine ev_aload_n (pc := 1) (i := 1) rfl rfl rfl dX6_tell_1 ?_
  refine ev_iload_n (pc := 2) (i := 2) rfl rfl dX6_tell_2 ?_
  obtain ⟨g1, h2⟩ := qk_el h0; clear h0
  obtain ⟨x3, S4, e5, h6⟩ := qc_el h2; clear h2
  refine xv_callV (pc := 3) (st := []) (as := [.ref p0, .int p1]) (v := (some (.int x3))) (S' := S4) ok_X6_firstFor (e_X6_firstFor e5) (isb_el g1) (by decide) rfl (Nat.le_of_ble_eq_true rfl) rfl gw_981 dX6_tell_3 ?_
  refine ev_istore_n (pc := 6) (L' := [some (.ref a), some (.ref p0), some (.int p1), some (.int x3)]) (i := 3) rfl (by decide) rfl rfl dX6_tell_6 ?_
  refine ev_iload_n (pc := 7) (i := 3) rfl rfl dX6_tell_7 ?_
  refine ev_iconst (pc := 8) (v := -1) (by decide) dX6_tell_8 ?_
  refine ev_ic_ne (pc := 9) (tgt := 27) (by decide) dX6_tell_9 (fun c7 => ?_) (fun c7 => ?_)
  · replace h6 := qi_f h6 c7
    refine ev_aload_n (pc := 27) (i := 0) rfl rfl rfl dX6_tell_27 ?_
    refine ev_iload_n (pc := 28) (i := 3) rfl rfl dX6_tell_28 ?_
    obtain ⟨g9, h10⟩ := qk_el h6; clear h6
    obtain ⟨x11, S12, e13, h14⟩ := qc_el h10; clear h10
    refine xv_callV (pc := 29) (st := []) (as := [.int x3]) (v := (some (.ref x11))) (S' := S12) ok_X6_at (e_X6_at e13) (isb_el g9) (by decide) rfl (Nat.le_of_ble_eq_true rfl) rfl gw_923 dX6_tell_29 ?_
    refine ev_dup (pc := 32) (.inr rfl) dX6_tell_32 ?_
    obtain ⟨g15, h16⟩ := qk_el h14; clear h14
    obtain ⟨x17, e18, h19⟩ := qv_el h16; clear h16
    refine xv_getIv (pc := 33) fn_304 (isb_el g15) e18 gw_77 dX6_tell_33 ?_
    refine ev_iconst (pc := 36) (v := 1) (by decide) dX6_tell_36 ?_
    refine ev_iadd (pc := 37)  dX6_tell_37 ?_
    obtain ⟨S20, e21, h22⟩ := qv_el h19; clear h19
    refine yv_putI (pc := 38) fn_304 ⟨rfl, rfl⟩ (isb_el g15) e21 gw_77 dX6_tell_38 ?_
    refine ev_aload_n (pc := 41) (i := 0) rfl rfl rfl dX6_tell_41 ?_
    refine ev_iload_n (pc := 42) (i := 3) rfl rfl dX6_tell_42 ?_
    obtain ⟨g23, h24⟩ := qk_el h22; clear h22
    obtain ⟨x25, S26, e27, h28⟩ := qc_el h24; clear h24
    refine xv_callV (pc := 43) (st := []) (as := [.int x3]) (v := (some (.ref x25))) (S' := S26) ok_X6_at (e_X6_at e27) (isb_el g23) (by decide) rfl (Nat.le_of_ble_eq_true rfl) rfl gw_923 dX6_tell_43 ?_
    obtain ⟨g29, h30⟩ := qk_el h28; clear h28
    obtain ⟨x31, e32, h33⟩ := qv_el h30; clear h30
    refine xv_getIv (pc := 46) fn_303 (isb_el g29) e32 gw_74 dX6_tell_46 ?_
    exact ev_ireturn (pc := 49) rfl (nar_int _) (qRI_eq h33) dX6_tell_49
  · replace h6 := qi_t h6 c7
    refine ev_aload_n (pc := 12) (i := 0) rfl rfl rfl dX6_tell_12 ?_
    refine ev_dup (pc := 13) (.inr rfl) dX6_tell_13 ?_
    obtain ⟨g34, h35⟩ := qk_el h6; clear h6
    obtain ⟨x36, e37, h38⟩ := qv_el h35; clear h35
    refine xv_getIv (pc := 14) fn_403 (isb_el g34) e37 gw_101 dX6_tell_14 ?_
    refine ev_iconst (pc := 17) (v := 1) (by decide) dX6_tell_17 ?_
    refine ev_iadd (pc := 18)  dX6_tell_18 ?_
    obtain ⟨S39, e40, h41⟩ := qv_el h38; clear h38
    refine yv_putI (pc := 19) fn_403 ⟨rfl, rfl⟩ (isb_el g34) e40 gw_101 dX6_tell_19 ?_
    refine ev_aload_n (pc := 22) (i := 0) rfl rfl rfl dX6_tell_22 ?_
    obtain ⟨x42, e43, h44⟩ := qv_el h41; clear h41
    refine xv_getIv (pc := 23) fn_402 (is_sI (isb_el g34) e40) e43 gw_96 dX6_tell_23 ?_
    exact ev_ireturn (pc := 26) rfl (nar_int _) (qRI_eq h44) dX6_tell_26
theorem dX0_step_0 : decode cX0_step 0 = .ok (.aload_n 0, 1) := by decide +kernel
theorem dX0_step_1 : decode cX0_step 1 = .ok (.aload_n 1, 1) := by decide +kernel
theorem dX0_step_2 : decode cX0_step 2 = .ok (.iload_n 2, 1) := by decide +kernel
theorem dX0_step_3 : decode cX0_step 3 = .ok (.invokevirtual 64, 3) := by decide +kernel
theorem dX0_step_6 : decode cX0_step 6 = .ok (.istore_n 3, 1) := by decide +kernel
theorem dX0_step_7 : decode cX0_step 7 = .ok (.aload_n 0, 1) := by decide +kernel
theorem dX0_step_8 : decode cX0_step 8 = .ok (.aload_n 0, 1) := by decide +kernel
theorem dX0_step_9 : decode cX0_step 9 = .ok (.getfield 31, 3) := by decide +kernel
theorem dX0_step_12 : decode cX0_step 12 = .ok (.ifCond .ne 8, 3) := by decide +kernel
theorem dX0_step_15 : decode cX0_step 15 = .ok (.iload_n 2, 1) := by decide +kernel
theorem dX0_step_16 : decode cX0_step 16 = .ok (.iconst 2, 1) := by decide +kernel
theorem dX0_step_17 : decode cX0_step 17 = .ok (.if_icmp .ne 7, 3) := by decide +kernel
theorem dX0_step_20 : decode cX0_step 20 = .ok (.iconst 1, 1) := by decide +kernel
theorem dX0_step_21 : decode cX0_step 21 = .ok (.goto 4, 3) := by decide +kernel
theorem dX0_step_24 : decode cX0_step 24 = .ok (.iconst 0, 1) := by decide +kernel
theorem dX0_step_25 : decode cX0_step 25 = .ok (.putfield 31, 3) := by decide +kernel
theorem dX0_step_28 : decode cX0_step 28 = .ok (.iload_n 3, 1) := by decide +kernel
theorem dX0_step_29 : decode cX0_step 29 = .ok (.iconst 1, 1) := by decide +kernel
theorem dX0_step_30 : decode cX0_step 30 = .ok (.if_icmp .ne 16, 3) := by decide +kernel
theorem dX0_step_33 : decode cX0_step 33 = .ok (.aload_n 0, 1) := by decide +kernel
theorem dX0_step_34 : decode cX0_step 34 = .ok (.iconst 0, 1) := by decide +kernel
theorem dX0_step_35 : decode cX0_step 35 = .ok (.putfield 31, 3) := by decide +kernel
theorem dX0_step_38 : decode cX0_step 38 = .ok (.aload_n 0, 1) := by decide +kernel
theorem dX0_step_39 : decode cX0_step 39 = .ok (.iconst 0, 1) := by decide +kernel
theorem dX0_step_40 : decode cX0_step 40 = .ok (.putfield 35, 3) := by decide +kernel
theorem dX0_step_43 : decode cX0_step 43 = .ok (.goto 21, 3) := by decide +kernel
theorem dX0_step_46 : decode cX0_step 46 = .ok (.iload_n 3, 1) := by decide +kernel
theorem dX0_step_47 : decode cX0_step 47 = .ok (.iconst 4, 1) := by decide +kernel
theorem dX0_step_48 : decode cX0_step 48 = .ok (.if_icmp .ne 16, 3) := by decide +kernel
theorem dX0_step_51 : decode cX0_step 51 = .ok (.aload_n 0, 1) := by decide +kernel
theorem dX0_step_52 : decode cX0_step 52 = .ok (.getfield 28, 3) := by decide +kernel
theorem dX0_step_55 : decode cX0_step 55 = .ok (.iconst 4, 1) := by decide +kernel
theorem dX0_step_56 : decode cX0_step 56 = .ok (.if_icmp .eq 8, 3) := by decide +kernel
theorem dX0_step_59 : decode cX0_step 59 = .ok (.aload_n 0, 1) := by decide +kernel
theorem dX0_step_60 : decode cX0_step 60 = .ok (.iload_n 2, 1) := by decide +kernel
theorem dX0_step_61 : decode cX0_step 61 = .ok (.putfield 35, 3) := by decide +kernel
theorem dX0_step_64 : decode cX0_step 64 = .ok (.aload_n 0, 1) := by decide +kernel
theorem dX0_step_65 : decode cX0_step 65 = .ok (.iload_n 3, 1) := by decide +kernel
theorem dX0_step_66 : decode cX0_step 66 = .ok (.putfield 28, 3) := by decide +kernel
theorem dX0_step_69 : decode cX0_step 69 = .ok (.return_, 1) := by decide +kernel
theorem e_X0_step_25 {X : gk_X} {F : Nat} {l0 : Nat} {l2 : Int32} {l3 : Int32} {s0 : Int32} {s1 : Nat} {S : gk_S} {r : (Unit × gk_S)} (h0 : f_X0_step_25 F l0 l2 l3 s0 s1 S = some r) : EvW X m_X0_step 4 0 0 25 [some (.ref l0), none, some (.int l2), some (.int l3)] [.int s0, .ref s1] S (qRU r) := by
  unfold f_X0_step_25 at h0
  obtain ⟨g14, h15⟩ := qk_el h0; clear h0
  obtain ⟨g16, h17⟩ := qk_el h15; clear h15
  obtain ⟨S18, e19, h20⟩ := qv_el h17; clear h17
  refine yv_putI (pc := 25) fn_6 (zb_fit g16) (isb_el g14) e19 gw_213 dX0_step_25 ?_
  refine ev_iload_n (pc := 28) (i := 3) rfl rfl dX0_step_28 ?_
  refine ev_iconst (pc := 29) (v := 1) (by decide) dX0_step_29 ?_
  refine ev_ic_ne (pc := 30) (tgt := 46) (by decide) dX0_step_30 (fun c21 => ?_) (fun c21 => ?_)
  · replace h20 := qi_f h20 c21
    refine ev_iload_n (pc := 46) (i := 3) rfl rfl dX0_step_46 ?_
    refine ev_iconst (pc := 47) (v := 4) (by decide) dX0_step_47 ?_
    refine ev_ic_ne (pc := 48) (tgt := 64) (by decide) dX0_step_48 (fun c23 => ?_) (fun c23 => ?_)
    · replace h20 := qi_f h20 c23
      refine ev_aload_n (pc := 64) (i := 0) rfl rfl rfl dX0_step_64 ?_
      refine ev_iload_n (pc := 65) (i := 3) rfl rfl dX0_step_65 ?_
      obtain ⟨g25, h26⟩ := qk_el h20; clear h20
      obtain ⟨S27, e28, h29⟩ := qv_el h26; clear h26
      refine yv_putI (pc := 66) fn_5 ⟨rfl, rfl⟩ (isb_el g25) e28 gw_212 dX0_step_66 ?_
      exact ev_return (pc := 69) rfl (qRU_eq h29) dX0_step_69
    · replace h20 := qi_t h20 c23
      refine ev_aload_n (pc := 51) (i := 0) rfl rfl rfl dX0_step_51 ?_
      obtain ⟨g30, h31⟩ := qk_el h20; clear h20
      obtain ⟨x32, e33, h34⟩ := qv_el h31; clear h31
      refine xv_getIv (pc := 52) fn_5 (isb_el g30) e33 gw_212 dX0_step_52 ?_
      refine ev_iconst (pc := 55) (v := 4) (by decide) dX0_step_55 ?_
      refine ev_ic_eq (pc := 56) (tgt := 64) (by decide) dX0_step_56 (fun c35 => ?_) (fun c35 => ?_)
      · replace h34 := qi_t h34 c35
        refine ev_aload_n (pc := 64) (i := 0) rfl rfl rfl dX0_step_64 ?_
        refine ev_iload_n (pc := 65) (i := 3) rfl rfl dX0_step_65 ?_
        obtain ⟨S37, e38, h39⟩ := qv_el h34; clear h34
        refine yv_putI (pc := 66) fn_5 ⟨rfl, rfl⟩ (isb_el g30) e38 gw_212 dX0_step_66 ?_
        exact ev_return (pc := 69) rfl (qRU_eq h39) dX0_step_69
      · replace h34 := qi_f h34 c35
        refine ev_aload_n (pc := 59) (i := 0) rfl rfl rfl dX0_step_59 ?_
        refine ev_iload_n (pc := 60) (i := 2) rfl rfl dX0_step_60 ?_
        obtain ⟨S40, e41, h42⟩ := qv_el h34; clear h34
        refine yv_putI (pc := 61) fn_7 ⟨rfl, rfl⟩ (isb_el g30) e41 gw_215 dX0_step_61 ?_
        refine ev_aload_n (pc := 64) (i := 0) rfl rfl rfl dX0_step_64 ?_
        refine ev_iload_n (pc := 65) (i := 3) rfl rfl dX0_step_65 ?_
        obtain ⟨S43, e44, h45⟩ := qv_el h42; clear h42
        refine yv_putI (pc := 66) fn_5 ⟨rfl, rfl⟩ (is_sI (isb_el g30) e41) e44 gw_212 dX0_step_66 ?_
        exact ev_return (pc := 69) rfl (qRU_eq h45) dX0_step_69
  · replace h20 := qi_t h20 c21
    refine ev_aload_n (pc := 33) (i := 0) rfl rfl rfl dX0_step_33 ?_
    refine ev_iconst (pc := 34) (v := 0) (by decide) dX0_step_34 ?_
    obtain ⟨g46, h47⟩ := qk_el h20; clear h20
    obtain ⟨S48, e49, h50⟩ := qv_el h47; clear h47
    refine yv_putI (pc := 35) fn_6 ⟨rfl, rfl⟩ (isb_el g46) e49 gw_213 dX0_step_35 ?_
    refine ev_aload_n (pc := 38) (i := 0) rfl rfl rfl dX0_step_38 ?_
    refine ev_iconst (pc := 39) (v := 0) (by decide) dX0_step_39 ?_
    obtain ⟨S51, e52, h53⟩ := qv_el h50; clear h50
    refine yv_putI (pc := 40) fn_7 ⟨rfl, rfl⟩ (is_sI (isb_el g46) e49) e52 gw_215 dX0_step_40 ?_
    refine ev_goto (pc := 43) (tgt := 64) (by decide) dX0_step_43 ?_
    refine ev_aload_n (pc := 64) (i := 0) rfl rfl rfl dX0_step_64 ?_
    refine ev_iload_n (pc := 65) (i := 3) rfl rfl dX0_step_65 ?_
    obtain ⟨S54, e55, h56⟩ := qv_el h53; clear h53
    refine yv_putI (pc := 66) fn_5 ⟨rfl, rfl⟩ (is_sI (is_sI (isb_el g46) e49) e52) e55 gw_212 dX0_step_66 ?_
    exact ev_return (pc := 69) rfl (qRU_eq h56) dX0_step_69
theorem e_X0_step {X : gk_X} {F : Nat} {S : gk_S} {a : Nat} {p0 : Nat} {p1 : Int32} {r : (Unit × gk_S)} (h0 : f_X0_step F S a p0 p1 = some r) : EvM X m_X0_step 4 0 0 [.ref a, .ref p0, .int p1] S (qRU r) := by
  unfold f_X0_step at h0
  refine ev_method (by decide +kernel) rfl rfl (Nat.le_of_ble_eq_true rfl) ?_
  show EvW X m_X0_step 4 0 0 0 [some (.ref a), some (.ref p0), some (.int p1), none] [] S _
  refine ev_aload_n (pc := 0) (i := 0) rfl rfl rfl dX0_step_0 ?_
  refine ev_aload_n (pc := 1) (i := 1) rfl rfl rfl dX0_step_1 ?_
  refine ev_iload_n (pc := 2) (i := 2) rfl rfl dX0_step_2 ?_
  obtain ⟨g1, h2⟩ := qk_el h0; clear h0
  obtain ⟨x3, S4, e5, h6⟩ := qc_el h2; clear h2
  refine xv_callV (pc := 3) (st := []) (as := [.ref p0, .int p1]) (v := (some (.int x3))) (S' := S4) ok_X0_phaseBehind (e_X0_phaseBehind e5) (isb_el g1) (by decide) rfl (Nat.le_of_ble_eq_true rfl) rfl gw_990 dX0_step_3 ?_
  refine ev_istore_n (pc := 6) (L' := [some (.ref a), some (.ref p0), some (.int p1), some (.int x3)]) (i := 3) rfl (by decide) rfl rfl dX0_step_6 ?_
  refine ev_aload_n (pc := 7) (i := 0) rfl rfl rfl dX0_step_7 ?_
  refine ev_aload_n (pc := 8) (i := 0) rfl rfl rfl dX0_step_8 ?_
  obtain ⟨g7, h8⟩ := qk_el h6; clear h6
  obtain ⟨x9, e10, h11⟩ := qv_el h8; clear h8
  refine xv_getIv (pc := 9) fn_6 (isb_el g7) e10 gw_213 dX0_step_9 ?_
  refine ev_if_ne (pc := 12) (tgt := 20) (by decide) dX0_step_12 (fun c12 => ?_) (fun c12 => ?_)
  · replace h11 := qi_f h11 c12
    refine ev_iconst (pc := 20) (v := 1) (by decide) dX0_step_20 ?_
    refine ev_goto (pc := 21) (tgt := 25) (by decide) dX0_step_21 ?_
    exact ev_weak (qL_s (qL_n (qL_s (qL_s qL_nil)))) (e_X0_step_25 h11)
  · replace h11 := qi_t h11 c12
    refine ev_iload_n (pc := 15) (i := 2) rfl rfl dX0_step_15 ?_
    refine ev_iconst (pc := 16) (v := 2) (by decide) dX0_step_16 ?_
    refine ev_ic_ne (pc := 17) (tgt := 24) (by decide) dX0_step_17 (fun c57 => ?_) (fun c57 => ?_)
    · replace h11 := qi_f h11 c57
      refine ev_iconst (pc := 24) (v := 0) (by decide) dX0_step_24 ?_
      exact ev_weak (qL_s (qL_n (qL_s (qL_s qL_nil)))) (e_X0_step_25 h11)
    · replace h11 := qi_t h11 c57
      refine ev_iconst (pc := 20) (v := 1) (by decide) dX0_step_20 ?_
      refine ev_goto (pc := 21) (tgt := 25) (by decide) dX0_step_21 ?_
      exact ev_weak (qL_s (qL_n (qL_s (qL_s qL_nil)))) (e_X0_step_25 h11)
theorem dX4_lifetime_0 : decode cX4_lifetime 0 = .ok (.iload_n 0, 1) := by decide +kernel
theorem dX4_lifetime_1 : decode cX4_lifetime 1 = .ok (.iconst 1, 1) := by decide +kernel
theorem dX4_lifetime_2 : decode cX4_lifetime 2 = .ok (.if_icmp .lt 19, 3) := by decide +kernel
theorem dX4_lifetime_5 : decode cX4_lifetime 5 = .ok (.iload_n 0, 1) := by decide +kernel
theorem dX4_lifetime_6 : decode cX4_lifetime 6 = .ok (.bipush 7, 2) := by decide +kernel
theorem dX4_lifetime_8 : decode cX4_lifetime 8 = .ok (.if_icmp .gt 13, 3) := by decide +kernel
theorem dX4_lifetime_11 : decode cX4_lifetime 11 = .ok (.getstatic 11, 3) := by decide +kernel
theorem dX4_lifetime_14 : decode cX4_lifetime 14 = .ok (.iload_n 0, 1) := by decide +kernel
theorem dX4_lifetime_15 : decode cX4_lifetime 15 = .ok (.iconst 1, 1) := by decide +kernel
theorem dX4_lifetime_16 : decode cX4_lifetime 16 = .ok (.isub, 1) := by decide +kernel
theorem dX4_lifetime_17 : decode cX4_lifetime 17 = .ok (.iaload, 1) := by decide +kernel
theorem dX4_lifetime_18 : decode cX4_lifetime 18 = .ok (.goto 4, 3) := by decide +kernel
theorem dX4_lifetime_21 : decode cX4_lifetime 21 = .ok (.iconst 0, 1) := by decide +kernel
theorem dX4_lifetime_22 : decode cX4_lifetime 22 = .ok (.ireturn, 1) := by decide +kernel
theorem e_X4_lifetime {X : gk_X} {F : Nat} {S : gk_S} {p0 : Int32} {r : (Int32 × gk_S)} (h0 : f_X4_lifetime F S p0 = some r) : EvM X m_X4_lifetime 1 0 0 [.int p0] S (qRI r) := by
  unfold f_X4_lifetime at h0
  refine ev_method (by decide +kernel) rfl rfl (Nat.le_of_ble_eq_true rfl) ?_
  show EvW X m_X4_lifetime 1 0 0 0 [some (.int p0)] [] S _
  refine ev_iload_n (pc := 0) (i := 0) rfl rfl dX4_lifetime_0 ?_
  refine ev_iconst (pc := 1) (v := 1) (by decide) dX4_lifetime_1 ?_
  refine ev_ic_lt (pc := 2) (tgt := 21) (by decide) dX4_lifetime_2 (fun c1 => ?_) (fun c1 => ?_)
  · replace h0 := qi_t h0 c1
    refine ev_iconst (pc := 21) (v := 0) (by decide) dX4_lifetime_21 ?_
    exact ev_ireturn (pc := 22) rfl (nar_int _) (qRI_eq h0) dX4_lifetime_22
  · replace h0 := qi_f h0 c1
    refine ev_iload_n (pc := 5) (i := 0) rfl rfl dX4_lifetime_5 ?_
    refine ev_bipush (pc := 6) (v := 7) (by decide) dX4_lifetime_6 ?_
    refine ev_ic_gt (pc := 8) (tgt := 21) (by decide) dX4_lifetime_8 (fun c3 => ?_) (fun c3 => ?_)
    · replace h0 := qi_t h0 c3
      refine ev_iconst (pc := 21) (v := 0) (by decide) dX4_lifetime_21 ?_
      exact ev_ireturn (pc := 22) rfl (nar_int _) (qRI_eq h0) dX4_lifetime_22
    · replace h0 := qi_f h0 c3
      refine ev_getsY (pc := 11) gw_998 dX4_lifetime_11 ?_
      refine ev_iload_n (pc := 14) (i := 0) rfl rfl dX4_lifetime_14 ?_
      refine ev_iconst (pc := 15) (v := 1) (by decide) dX4_lifetime_15 ?_
      refine ev_isub (pc := 16)  dX4_lifetime_16 ?_
      obtain ⟨g5, h6⟩ := qk_el h0; clear h0
      refine ev_caldY (pc := 17) (inb_el g5) dX4_lifetime_17 ?_
      refine ev_goto (pc := 18) (tgt := 22) (by decide) dX4_lifetime_18 ?_
      exact ev_ireturn (pc := 22) rfl (nar_int _) (qRI_eq h6) dX4_lifetime_22
theorem dX0_lifetime_0 : decode cX0_lifetime 0 = .ok (.aload_n 0, 1) := by decide +kernel
theorem dX0_lifetime_1 : decode cX0_lifetime 1 = .ok (.getfield 9, 3) := by decide +kernel
theorem dX0_lifetime_4 : decode cX0_lifetime 4 = .ok (.lookupswitch 63 #[(1, 60), (6, 36), (17, 44)], 36) := by decide +kernel
theorem dX0_lifetime_40 : decode cX0_lifetime 40 = .ok (.aload_n 0, 1) := by decide +kernel
theorem dX0_lifetime_41 : decode cX0_lifetime 41 = .ok (.getfield 28, 3) := by decide +kernel
theorem dX0_lifetime_44 : decode cX0_lifetime 44 = .ok (.invokestatic 68, 3) := by decide +kernel
theorem dX0_lifetime_47 : decode cX0_lifetime 47 = .ok (.ireturn, 1) := by decide +kernel
theorem dX0_lifetime_48 : decode cX0_lifetime 48 = .ok (.aload_n 0, 1) := by decide +kernel
theorem dX0_lifetime_49 : decode cX0_lifetime 49 = .ok (.getfield 31, 3) := by decide +kernel
theorem dX0_lifetime_52 : decode cX0_lifetime 52 = .ok (.ifCond .eq 9, 3) := by decide +kernel
theorem dX0_lifetime_55 : decode cX0_lifetime 55 = .ok (.sipush 180, 3) := by decide +kernel
theorem dX0_lifetime_58 : decode cX0_lifetime 58 = .ok (.goto 5, 3) := by decide +kernel
theorem dX0_lifetime_61 : decode cX0_lifetime 61 = .ok (.bipush 30, 2) := by decide +kernel
theorem dX0_lifetime_63 : decode cX0_lifetime 63 = .ok (.ireturn, 1) := by decide +kernel
theorem dX0_lifetime_64 : decode cX0_lifetime 64 = .ok (.bipush 30, 2) := by decide +kernel
theorem dX0_lifetime_66 : decode cX0_lifetime 66 = .ok (.ireturn, 1) := by decide +kernel
theorem dX0_lifetime_67 : decode cX0_lifetime 67 = .ok (.sipush 600, 3) := by decide +kernel
theorem dX0_lifetime_70 : decode cX0_lifetime 70 = .ok (.ireturn, 1) := by decide +kernel
theorem e_X0_lifetime {X : gk_X} {F : Nat} {S : gk_S} {a : Nat} {r : (Int32 × gk_S)} (h0 : f_X0_lifetime F S a = some r) : EvM X m_X0_lifetime 2 0 0 [.ref a] S (qRI r) := by
  unfold f_X0_lifetime at h0
  refine ev_method (by decide +kernel) rfl rfl (Nat.le_of_ble_eq_true rfl) ?_
  show EvW X m_X0_lifetime 2 0 0 0 [some (.ref a)] [] S _
  refine ev_aload_n (pc := 0) (i := 0) rfl rfl rfl dX0_lifetime_0 ?_
  obtain ⟨g1, h2⟩ := qk_el h0; clear h0
  obtain ⟨x3, e4, h5⟩ := qv_el h2; clear h2
  refine xv_getIv (pc := 1) fn_0 (isb_el g1) e4 gw_207 dX0_lifetime_1 ?_
  by_cases c6 : x3 = 1
  · refine ev_lookup (pc := 4) (off := 60) (tgt := 64) rfl (by rw [c6]; rfl) (by decide) dX0_lifetime_4 ?_
    replace h5 := qi_t h5 c6
    refine ev_bipush (pc := 64) (v := 30) (by decide) dX0_lifetime_64 ?_
    exact ev_ireturn (pc := 66) rfl (nar_int _) (qRI_eq h5) dX0_lifetime_66
  replace h5 := qi_f h5 c6
  by_cases c7 : x3 = 6
  · refine ev_lookup (pc := 4) (off := 36) (tgt := 40) rfl (by rw [c7]; rfl) (by decide) dX0_lifetime_4 ?_
    replace h5 := qi_t h5 c7
    refine ev_aload_n (pc := 40) (i := 0) rfl rfl rfl dX0_lifetime_40 ?_
    obtain ⟨x8, e9, h10⟩ := qv_el h5; clear h5
    refine xv_getIv (pc := 41) fn_5 (isb_el g1) e9 gw_212 dX0_lifetime_41 ?_
    obtain ⟨x11, S12, e13, h14⟩ := qc_el h10; clear h10
    refine xv_callS (pc := 44) (st := []) (as := [.int x8]) (v := (some (.int x11))) (S' := S12) ok_X4_lifetime (e_X4_lifetime e13) (by decide) rfl (Nat.le_of_ble_eq_true rfl) rfl gw_995 dX0_lifetime_44 ?_
    exact ev_ireturn (pc := 47) rfl (nar_int _) (qRI_eq h14) dX0_lifetime_47
  replace h5 := qi_f h5 c7
  by_cases c15 : x3 = 17
  · refine ev_lookup (pc := 4) (off := 44) (tgt := 48) rfl (by rw [c15]; rfl) (by decide) dX0_lifetime_4 ?_
    replace h5 := qi_t h5 c15
    refine ev_aload_n (pc := 48) (i := 0) rfl rfl rfl dX0_lifetime_48 ?_
    obtain ⟨x16, e17, h18⟩ := qv_el h5; clear h5
    refine xv_getIv (pc := 49) fn_6 (isb_el g1) e17 gw_213 dX0_lifetime_49 ?_
    refine ev_if_eq (pc := 52) (tgt := 61) (by decide) dX0_lifetime_52 (fun c19 => ?_) (fun c19 => ?_)
    · replace h18 := qi_t h18 c19
      refine ev_bipush (pc := 61) (v := 30) (by decide) dX0_lifetime_61 ?_
      exact ev_ireturn (pc := 63) rfl (nar_int _) (qRI_eq h18) dX0_lifetime_63
    · replace h18 := qi_f h18 c19
      refine ev_sipush (pc := 55) (v := 180) (by decide) dX0_lifetime_55 ?_
      refine ev_goto (pc := 58) (tgt := 63) (by decide) dX0_lifetime_58 ?_
      exact ev_ireturn (pc := 63) rfl (nar_int _) (qRI_eq h18) dX0_lifetime_63
  replace h5 := qi_f h5 c15
  refine ev_lookup (pc := 4) (off := 63) (tgt := 67) rfl (lo_ne (ti_ne c6 rfl) (lo_ne (ti_ne c7 rfl) (lo_ne (ti_ne c15 rfl) lo_nil))) (by decide) dX0_lifetime_4 ?_
  refine ev_sipush (pc := 67) (v := 600) (by decide) dX0_lifetime_67 ?_
  exact ev_ireturn (pc := 70) rfl (nar_int _) (qRI_eq h5) dX0_lifetime_70
theorem dX8_step_0 : decode cX8_step 0 = .ok (.aload_n 0, 1) := by decide +kernel
theorem dX8_step_1 : decode cX8_step 1 = .ok (.iload_n 2, 1) := by decide +kernel
theorem dX8_step_2 : decode cX8_step 2 = .ok (.invokevirtual 35, 3) := by decide +kernel
theorem dX8_step_5 : decode cX8_step 5 = .ok (.astore_n 3, 1) := by decide +kernel
theorem dX8_step_6 : decode cX8_step 6 = .ok (.aload_n 3, 1) := by decide +kernel
theorem dX8_step_7 : decode cX8_step 7 = .ok (.aload_n 1, 1) := by decide +kernel
theorem dX8_step_8 : decode cX8_step 8 = .ok (.aload_n 3, 1) := by decide +kernel
theorem dX8_step_9 : decode cX8_step 9 = .ok (.aload_n 1, 1) := by decide +kernel
theorem dX8_step_10 : decode cX8_step 10 = .ok (.invokevirtual 46, 3) := by decide +kernel
theorem dX8_step_13 : decode cX8_step 13 = .ok (.invokevirtual 64, 3) := by decide +kernel
theorem dX8_step_16 : decode cX8_step 16 = .ok (.aload_n 3, 1) := by decide +kernel
theorem dX8_step_17 : decode cX8_step 17 = .ok (.aload_n 0, 1) := by decide +kernel
theorem dX8_step_18 : decode cX8_step 18 = .ok (.getfield 25, 3) := by decide +kernel
theorem dX8_step_21 : decode cX8_step 21 = .ok (.aload_n 3, 1) := by decide +kernel
theorem dX8_step_22 : decode cX8_step 22 = .ok (.invokevirtual 68, 3) := by decide +kernel
theorem dX8_step_25 : decode cX8_step 25 = .ok (.iadd, 1) := by decide +kernel
theorem dX8_step_26 : decode cX8_step 26 = .ok (.putfield 39, 3) := by decide +kernel
theorem dX8_step_29 : decode cX8_step 29 = .ok (.return_, 1) := by decide +kernel
theorem e_X8_step {X : gk_X} {F : Nat} {S : gk_S} {a : Nat} {p0 : Nat} {p1 : Int32} {r : (Unit × gk_S)} (h0 : f_X8_step F S a p0 p1 = some r) : EvM X m_X8_step 5 0 0 [.ref a, .ref p0, .int p1] S (qRU r) := by
  unfold f_X8_step at h0
  refine ev_method (by decide +kernel) rfl rfl (Nat.le_of_ble_eq_true rfl) ?_
  show EvW X m_X8_step 5 0 0 0 [some (.ref a), some (.ref p0), some (.int p1), none] [] S _
  refine ev_aload_n (pc := 0) (i := 0) rfl rfl rfl dX8_step_0 ?_
  refine ev_iload_n (pc := 1) (i := 2) rfl rfl dX8_step_1 ?_
  obtain ⟨g1, h2⟩ := qk_el h0; clear h0
  obtain ⟨x3, S4, e5, h6⟩ := qc_el h2; clear h2
  refine xv_callV (pc := 2) (st := []) (as := [.int p1]) (v := (some (.ref x3))) (S' := S4) ok_X8_at (e_X8_at e5) (isb_el g1) (by decide) rfl (Nat.le_of_ble_eq_true rfl) rfl gw_358 dX8_step_2 ?_
  refine ev_astore_n (pc := 5) (L' := [some (.ref a), some (.ref p0), some (.int p1), some (.ref x3)]) (i := 3) rfl (by decide) rfl rfl rfl dX8_step_5 ?_
  refine ev_aload_n (pc := 6) (i := 3) rfl rfl rfl dX8_step_6 ?_
  refine ev_aload_n (pc := 7) (i := 1) rfl rfl rfl dX8_step_7 ?_
  refine ev_aload_n (pc := 8) (i := 3) rfl rfl rfl dX8_step_8 ?_
  refine ev_aload_n (pc := 9) (i := 1) rfl rfl rfl dX8_step_9 ?_
  obtain ⟨g7, h8⟩ := qk_el h6; clear h6
  obtain ⟨x9, S10, e11, h12⟩ := qc_el h8; clear h8
  refine xv_callV (pc := 10) (st := [.ref p0, .ref x3]) (as := [.ref p0]) (v := (some (.int x9))) (S' := S10) ok_X0_sideOf (e_X0_sideOf e11) (isb_el g7) (by decide) rfl (Nat.le_of_ble_eq_true rfl) rfl gw_944 dX8_step_10 ?_
  obtain ⟨g13, h14⟩ := qk_el h12; clear h12
  obtain ⟨x15, S16, e17, h18⟩ := qc_el h14; clear h14
  refine xv_callV (pc := 13) (st := []) (as := [.ref p0, .int x9]) (v := none) (S' := S16) ok_X0_step (e_X0_step e17) (isb_el g13) (by decide) rfl (Nat.le_of_ble_eq_true rfl) rfl gw_986 dX8_step_13 ?_
  refine ev_aload_n (pc := 16) (i := 3) rfl rfl rfl dX8_step_16 ?_
  refine ev_aload_n (pc := 17) (i := 0) rfl rfl rfl dX8_step_17 ?_
  obtain ⟨g19, h20⟩ := qk_el h18; clear h18
  obtain ⟨x21, e22, h23⟩ := qv_el h20; clear h20
  refine xv_getIv (pc := 18) fn_603 (isb_el g19) e22 gw_242 dX8_step_18 ?_
  refine ev_aload_n (pc := 21) (i := 3) rfl rfl rfl dX8_step_21 ?_
  obtain ⟨g24, h25⟩ := qk_el h23; clear h23
  obtain ⟨x26, S27, e28, h29⟩ := qc_el h25; clear h25
  refine xv_callV (pc := 22) (st := [.int x21, .ref x3]) (as := []) (v := (some (.int x26))) (S' := S27) ok_X0_lifetime (e_X0_lifetime e28) (isb_el g24) (by decide) rfl (Nat.le_of_ble_eq_true rfl) rfl gw_991 dX8_step_22 ?_
  refine ev_iadd (pc := 25)  dX8_step_25 ?_
  obtain ⟨g30, h31⟩ := qk_el h29; clear h29
  obtain ⟨S32, e33, h34⟩ := qv_el h31; clear h31
  refine yv_putI (pc := 26) fn_8 ⟨rfl, rfl⟩ (isb_el g30) e33 gw_217 dX8_step_26 ?_
  exact ev_return (pc := 29) rfl (qRU_eq h34) dX8_step_29
theorem dX8_leastNeeded_0 : decode cX8_leastNeeded 0 = .ok (.iconst (-1), 1) := by decide +kernel
theorem dX8_leastNeeded_1 : decode cX8_leastNeeded 1 = .ok (.istore_n 1, 1) := by decide +kernel
theorem dX8_leastNeeded_2 : decode cX8_leastNeeded 2 = .ok (.iconst 0, 1) := by decide +kernel
theorem dX8_leastNeeded_3 : decode cX8_leastNeeded 3 = .ok (.istore_n 2, 1) := by decide +kernel
theorem dX8_leastNeeded_4 : decode cX8_leastNeeded 4 = .ok (.iload_n 2, 1) := by decide +kernel
theorem dX8_leastNeeded_5 : decode cX8_leastNeeded 5 = .ok (.aload_n 0, 1) := by decide +kernel
theorem dX8_leastNeeded_6 : decode cX8_leastNeeded 6 = .ok (.getfield 18, 3) := by decide +kernel
theorem dX8_leastNeeded_9 : decode cX8_leastNeeded 9 = .ok (.if_icmp .ge 54, 3) := by decide +kernel
theorem dX8_leastNeeded_12 : decode cX8_leastNeeded 12 = .ok (.iload_n 2, 1) := by decide +kernel
theorem dX8_leastNeeded_13 : decode cX8_leastNeeded 13 = .ok (.bipush 64, 2) := by decide +kernel
theorem dX8_leastNeeded_15 : decode cX8_leastNeeded 15 = .ok (.if_icmp .ge 48, 3) := by decide +kernel
theorem dX8_leastNeeded_18 : decode cX8_leastNeeded 18 = .ok (.aload_n 0, 1) := by decide +kernel
theorem dX8_leastNeeded_19 : decode cX8_leastNeeded 19 = .ok (.getfield 13, 3) := by decide +kernel
theorem dX8_leastNeeded_22 : decode cX8_leastNeeded 22 = .ok (.iload_n 2, 1) := by decide +kernel
theorem dX8_leastNeeded_23 : decode cX8_leastNeeded 23 = .ok (.aaload, 1) := by decide +kernel
theorem dX8_leastNeeded_24 : decode cX8_leastNeeded 24 = .ok (.getfield 60, 3) := by decide +kernel
theorem dX8_leastNeeded_27 : decode cX8_leastNeeded 27 = .ok (.ifCond .ne 30, 3) := by decide +kernel
theorem dX8_leastNeeded_30 : decode cX8_leastNeeded 30 = .ok (.iload_n 1, 1) := by decide +kernel
theorem dX8_leastNeeded_31 : decode cX8_leastNeeded 31 = .ok (.iconst (-1), 1) := by decide +kernel
theorem dX8_leastNeeded_32 : decode cX8_leastNeeded 32 = .ok (.if_icmp .eq 23, 3) := by decide +kernel
theorem dX8_leastNeeded_35 : decode cX8_leastNeeded 35 = .ok (.aload_n 0, 1) := by decide +kernel
theorem dX8_leastNeeded_36 : decode cX8_leastNeeded 36 = .ok (.getfield 13, 3) := by decide +kernel
theorem dX8_leastNeeded_39 : decode cX8_leastNeeded 39 = .ok (.iload_n 2, 1) := by decide +kernel
theorem dX8_leastNeeded_40 : decode cX8_leastNeeded 40 = .ok (.aaload, 1) := by decide +kernel
theorem dX8_leastNeeded_41 : decode cX8_leastNeeded 41 = .ok (.getfield 39, 3) := by decide +kernel
theorem dX8_leastNeeded_44 : decode cX8_leastNeeded 44 = .ok (.aload_n 0, 1) := by decide +kernel
theorem dX8_leastNeeded_45 : decode cX8_leastNeeded 45 = .ok (.iload_n 1, 1) := by decide +kernel
theorem dX8_leastNeeded_46 : decode cX8_leastNeeded 46 = .ok (.invokevirtual 35, 3) := by decide +kernel
theorem dX8_leastNeeded_49 : decode cX8_leastNeeded 49 = .ok (.getfield 39, 3) := by decide +kernel
theorem dX8_leastNeeded_52 : decode cX8_leastNeeded 52 = .ok (.if_icmp .ge 5, 3) := by decide +kernel
theorem dX8_leastNeeded_55 : decode cX8_leastNeeded 55 = .ok (.iload_n 2, 1) := by decide +kernel
theorem dX8_leastNeeded_56 : decode cX8_leastNeeded 56 = .ok (.istore_n 1, 1) := by decide +kernel
theorem dX8_leastNeeded_57 : decode cX8_leastNeeded 57 = .ok (.iinc 2 1, 3) := by decide +kernel
theorem dX8_leastNeeded_60 : decode cX8_leastNeeded 60 = .ok (.goto (-56), 3) := by decide +kernel
theorem dX8_leastNeeded_63 : decode cX8_leastNeeded 63 = .ok (.iload_n 1, 1) := by decide +kernel
theorem dX8_leastNeeded_64 : decode cX8_leastNeeded 64 = .ok (.ireturn, 1) := by decide +kernel
theorem e_X8_leastNeeded_4 {X : gk_X} {F : Nat} : ∀ (n : Nat) (l0 : Nat) (l1 : Int32) (l2 : Int32) (S : gk_S) (r : (Int32 × gk_S)), f_X8_leastNeeded_4 F n l0 l1 l2 S = some r → EvW X m_X8_leastNeeded 2 0 0 4 [some (.ref l0), some (.int l1), some (.int l2)] [] S (qRI r) := by
  intro n
  induction n with
  | zero => intro l0 l1 l2 S r h0; rw [f_X8_leastNeeded_4] at h0; cases h0
  | succ n ih =>
    intro l0 l1 l2 S r h0; rw [f_X8_leastNeeded_4] at h0
    refine ev_iload_n (pc := 4) (i := 2) rfl rfl dX8_leastNeeded_4 ?_
    refine ev_aload_n (pc := 5) (i := 0) rfl rfl rfl dX8_leastNeeded_5 ?_
    obtain ⟨g1, h2⟩ := qk_el h0; clear h0
    obtain ⟨x3, e4, h5⟩ := qv_el h2; clear h2
    refine xv_getIv (pc := 6) fn_601 (isb_el g1) e4 gw_238 dX8_leastNeeded_6 ?_
    refine ev_ic_ge (pc := 9) (tgt := 63) (by decide) dX8_leastNeeded_9 (fun c6 => ?_) (fun c6 => ?_)
    · replace h5 := qi_t h5 c6
      refine ev_iload_n (pc := 63) (i := 1) rfl rfl dX8_leastNeeded_63 ?_
      exact ev_ireturn (pc := 64) rfl (nar_int _) (qRI_eq h5) dX8_leastNeeded_64
    · replace h5 := qi_f h5 c6
      refine ev_iload_n (pc := 12) (i := 2) rfl rfl dX8_leastNeeded_12 ?_
      refine ev_bipush (pc := 13) (v := 64) (by decide) dX8_leastNeeded_13 ?_
      refine ev_ic_ge (pc := 15) (tgt := 63) (by decide) dX8_leastNeeded_15 (fun c8 => ?_) (fun c8 => ?_)
      · replace h5 := qi_t h5 c8
        refine ev_iload_n (pc := 63) (i := 1) rfl rfl dX8_leastNeeded_63 ?_
        exact ev_ireturn (pc := 64) rfl (nar_int _) (qRI_eq h5) dX8_leastNeeded_64
      · replace h5 := qi_f h5 c8
        refine ev_aload_n (pc := 18) (i := 0) rfl rfl rfl dX8_leastNeeded_18 ?_
        obtain ⟨b10, e11, h12⟩ := qP_el h5; clear h5
        refine xv_getP (pc := 19) fn_600 (isb_el g1) e11 gw_237 dX8_leastNeeded_19 ?_
        refine ev_iload_n (pc := 22) (i := 2) rfl rfl dX8_leastNeeded_22 ?_
        obtain ⟨g13, h14⟩ := qk_el h12; clear h12
        obtain ⟨g15, h16⟩ := qk_el h14; clear h14
        obtain ⟨b17, e18, h19⟩ := qP_el h16; clear h16
        refine yv_aald (pc := 23) (isb_el g13) (by decide) (inb_el g15) e18 dX8_leastNeeded_23 ?_
        obtain ⟨g20, h21⟩ := qk_el h19; clear h19
        obtain ⟨x22, e23, h24⟩ := qv_el h21; clear h21
        refine xv_getIv (pc := 24) fn_6 (isb_el g20) e23 gw_214 dX8_leastNeeded_24 ?_
        refine ev_if_ne (pc := 27) (tgt := 57) (by decide) dX8_leastNeeded_27 (fun c25 => ?_) (fun c25 => ?_)
        · replace h24 := qi_f h24 c25
          refine ev_iinc (pc := 57) (L' := [some (.ref l0), some (.int l1), some (.int (l2 + 1))]) (i := 2) (v := (l2 + 1)) rfl rfl (by decide) rfl rfl dX8_leastNeeded_57 ?_
          refine ev_goto (pc := 60) (tgt := 4) (by decide) dX8_leastNeeded_60 ?_
          exact (ev_weak (qL_s (qL_s (qL_s qL_nil))) (ih _ _ _ _ _ h24))
        · replace h24 := qi_t h24 c25
          refine ev_iload_n (pc := 30) (i := 1) rfl rfl dX8_leastNeeded_30 ?_
          refine ev_iconst (pc := 31) (v := -1) (by decide) dX8_leastNeeded_31 ?_
          refine ev_ic_eq (pc := 32) (tgt := 55) (by decide) dX8_leastNeeded_32 (fun c27 => ?_) (fun c27 => ?_)
          · replace h24 := qi_t h24 c27
            refine ev_iload_n (pc := 55) (i := 2) rfl rfl dX8_leastNeeded_55 ?_
            refine ev_istore_n (pc := 56) (L' := [some (.ref l0), some (.int l2), some (.int l2)]) (i := 1) rfl (by decide) rfl rfl dX8_leastNeeded_56 ?_
            refine ev_iinc (pc := 57) (L' := [some (.ref l0), some (.int l2), some (.int (l2 + 1))]) (i := 2) (v := (l2 + 1)) rfl rfl (by decide) rfl rfl dX8_leastNeeded_57 ?_
            refine ev_goto (pc := 60) (tgt := 4) (by decide) dX8_leastNeeded_60 ?_
            exact (ev_weak (qL_s (qL_s (qL_s qL_nil))) (ih _ _ _ _ _ h24))
          · replace h24 := qi_f h24 c27
            refine ev_aload_n (pc := 35) (i := 0) rfl rfl rfl dX8_leastNeeded_35 ?_
            obtain ⟨b29, e30, h31⟩ := qP_el h24; clear h24
            refine xv_getP (pc := 36) fn_600 (isb_el g1) e30 gw_237 dX8_leastNeeded_36 ?_
            refine ev_iload_n (pc := 39) (i := 2) rfl rfl dX8_leastNeeded_39 ?_
            obtain ⟨g32, h33⟩ := qk_el h31; clear h31
            obtain ⟨g34, h35⟩ := qk_el h33; clear h33
            obtain ⟨b36, e37, h38⟩ := qP_el h35; clear h35
            refine yv_aald (pc := 40) (isb_el g32) (by decide) (inb_el g34) e37 dX8_leastNeeded_40 ?_
            obtain ⟨g39, h40⟩ := qk_el h38; clear h38
            obtain ⟨x41, e42, h43⟩ := qv_el h40; clear h40
            refine xv_getIv (pc := 41) fn_8 (isb_el g39) e42 gw_217 dX8_leastNeeded_41 ?_
            refine ev_aload_n (pc := 44) (i := 0) rfl rfl rfl dX8_leastNeeded_44 ?_
            refine ev_iload_n (pc := 45) (i := 1) rfl rfl dX8_leastNeeded_45 ?_
            obtain ⟨x44, S45, e46, h47⟩ := qc_el h43; clear h43
            refine xv_callV (pc := 46) (st := [.int x41]) (as := [.int l1]) (v := (some (.ref x44))) (S' := S45) ok_X8_at (e_X8_at e46) (isb_el g1) (by decide) rfl (Nat.le_of_ble_eq_true rfl) rfl gw_358 dX8_leastNeeded_46 ?_
            obtain ⟨g48, h49⟩ := qk_el h47; clear h47
            obtain ⟨x50, e51, h52⟩ := qv_el h49; clear h49
            refine xv_getIv (pc := 49) fn_8 (isb_el g48) e51 gw_217 dX8_leastNeeded_49 ?_
            refine ev_ic_ge (pc := 52) (tgt := 57) (by decide) dX8_leastNeeded_52 (fun c53 => ?_) (fun c53 => ?_)
            · replace h52 := qi_t h52 c53
              refine ev_iinc (pc := 57) (L' := [some (.ref l0), some (.int l1), some (.int (l2 + 1))]) (i := 2) (v := (l2 + 1)) rfl rfl (by decide) rfl rfl dX8_leastNeeded_57 ?_
              refine ev_goto (pc := 60) (tgt := 4) (by decide) dX8_leastNeeded_60 ?_
              exact (ev_weak (qL_s (qL_s (qL_s qL_nil))) (ih _ _ _ _ _ h52))
            · replace h52 := qi_f h52 c53
              refine ev_iload_n (pc := 55) (i := 2) rfl rfl dX8_leastNeeded_55 ?_
              refine ev_istore_n (pc := 56) (L' := [some (.ref l0), some (.int l2), some (.int l2)]) (i := 1) rfl (by decide) rfl rfl dX8_leastNeeded_56 ?_
              refine ev_iinc (pc := 57) (L' := [some (.ref l0), some (.int l2), some (.int (l2 + 1))]) (i := 2) (v := (l2 + 1)) rfl rfl (by decide) rfl rfl dX8_leastNeeded_57 ?_
              refine ev_goto (pc := 60) (tgt := 4) (by decide) dX8_leastNeeded_60 ?_
              exact (ev_weak (qL_s (qL_s (qL_s qL_nil))) (ih _ _ _ _ _ h52))
theorem e_X8_leastNeeded {X : gk_X} {F : Nat} {S : gk_S} {a : Nat} {r : (Int32 × gk_S)} (h0 : f_X8_leastNeeded F S a = some r) : EvM X m_X8_leastNeeded 2 0 0 [.ref a] S (qRI r) := by
  unfold f_X8_leastNeeded at h0
  refine ev_method (by decide +kernel) rfl rfl (Nat.le_of_ble_eq_true rfl) ?_
  show EvW X m_X8_leastNeeded 2 0 0 0 [some (.ref a), none, none] [] S _
  refine ev_iconst (pc := 0) (v := -1) (by decide) dX8_leastNeeded_0 ?_
  refine ev_istore_n (pc := 1) (L' := [some (.ref a), some (.int (-1)), none]) (i := 1) rfl (by decide) rfl rfl dX8_leastNeeded_1 ?_
  refine ev_iconst (pc := 2) (v := 0) (by decide) dX8_leastNeeded_2 ?_
  refine ev_istore_n (pc := 3) (L' := [some (.ref a), some (.int (-1)), some (.int 0)]) (i := 2) rfl (by decide) rfl rfl dX8_leastNeeded_3 ?_
  exact ev_weak (qL_s (qL_s (qL_s qL_nil))) (e_X8_leastNeeded_4 F _ _ _ _ _ h0)
theorem dX8_remove_0 : decode cX8_remove 0 = .ok (.iload_n 1, 1) := by decide +kernel
theorem dX8_remove_1 : decode cX8_remove 1 = .ok (.ifCond .lt 11, 3) := by decide +kernel
theorem dX8_remove_4 : decode cX8_remove 4 = .ok (.iload_n 1, 1) := by decide +kernel
theorem dX8_remove_5 : decode cX8_remove 5 = .ok (.aload_n 0, 1) := by decide +kernel
theorem dX8_remove_6 : decode cX8_remove 6 = .ok (.getfield 18, 3) := by decide +kernel
theorem dX8_remove_9 : decode cX8_remove 9 = .ok (.if_icmp .lt 4, 3) := by decide +kernel
theorem dX8_remove_12 : decode cX8_remove 12 = .ok (.return_, 1) := by decide +kernel
theorem dX8_remove_13 : decode cX8_remove 13 = .ok (.aload_n 0, 1) := by decide +kernel
theorem dX8_remove_14 : decode cX8_remove 14 = .ok (.iload_n 1, 1) := by decide +kernel
theorem dX8_remove_15 : decode cX8_remove 15 = .ok (.invokevirtual 35, 3) := by decide +kernel
theorem dX8_remove_18 : decode cX8_remove 18 = .ok (.astore_n 2, 1) := by decide +kernel
theorem dX8_remove_19 : decode cX8_remove 19 = .ok (.iload_n 1, 1) := by decide +kernel
theorem dX8_remove_20 : decode cX8_remove 20 = .ok (.istore_n 3, 1) := by decide +kernel
theorem dX8_remove_21 : decode cX8_remove 21 = .ok (.iload_n 3, 1) := by decide +kernel
theorem dX8_remove_22 : decode cX8_remove 22 = .ok (.iconst 1, 1) := by decide +kernel
theorem dX8_remove_23 : decode cX8_remove 23 = .ok (.iadd, 1) := by decide +kernel
theorem dX8_remove_24 : decode cX8_remove 24 = .ok (.aload_n 0, 1) := by decide +kernel
theorem dX8_remove_25 : decode cX8_remove 25 = .ok (.getfield 18, 3) := by decide +kernel
theorem dX8_remove_28 : decode cX8_remove 28 = .ok (.if_icmp .ge 31, 3) := by decide +kernel
theorem dX8_remove_31 : decode cX8_remove 31 = .ok (.iload_n 3, 1) := by decide +kernel
theorem dX8_remove_32 : decode cX8_remove 32 = .ok (.iconst 1, 1) := by decide +kernel
theorem dX8_remove_33 : decode cX8_remove 33 = .ok (.iadd, 1) := by decide +kernel
theorem dX8_remove_34 : decode cX8_remove 34 = .ok (.bipush 64, 2) := by decide +kernel
theorem dX8_remove_36 : decode cX8_remove 36 = .ok (.if_icmp .ge 23, 3) := by decide +kernel
theorem dX8_remove_39 : decode cX8_remove 39 = .ok (.aload_n 0, 1) := by decide +kernel
theorem dX8_remove_40 : decode cX8_remove 40 = .ok (.getfield 13, 3) := by decide +kernel
theorem dX8_remove_43 : decode cX8_remove 43 = .ok (.iload_n 3, 1) := by decide +kernel
theorem dX8_remove_44 : decode cX8_remove 44 = .ok (.aload_n 0, 1) := by decide +kernel
theorem dX8_remove_45 : decode cX8_remove 45 = .ok (.getfield 13, 3) := by decide +kernel
theorem dX8_remove_48 : decode cX8_remove 48 = .ok (.iload_n 3, 1) := by decide +kernel
theorem dX8_remove_49 : decode cX8_remove 49 = .ok (.iconst 1, 1) := by decide +kernel
theorem dX8_remove_50 : decode cX8_remove 50 = .ok (.iadd, 1) := by decide +kernel
theorem dX8_remove_51 : decode cX8_remove 51 = .ok (.aaload, 1) := by decide +kernel
theorem dX8_remove_52 : decode cX8_remove 52 = .ok (.aastore, 1) := by decide +kernel
theorem dX8_remove_53 : decode cX8_remove 53 = .ok (.iinc 3 1, 3) := by decide +kernel
theorem dX8_remove_56 : decode cX8_remove 56 = .ok (.goto (-35), 3) := by decide +kernel
theorem dX8_remove_59 : decode cX8_remove 59 = .ok (.aload_n 0, 1) := by decide +kernel
theorem dX8_remove_60 : decode cX8_remove 60 = .ok (.dup, 1) := by decide +kernel
theorem dX8_remove_61 : decode cX8_remove 61 = .ok (.getfield 18, 3) := by decide +kernel
theorem dX8_remove_64 : decode cX8_remove 64 = .ok (.iconst 1, 1) := by decide +kernel
theorem dX8_remove_65 : decode cX8_remove 65 = .ok (.isub, 1) := by decide +kernel
theorem dX8_remove_66 : decode cX8_remove 66 = .ok (.putfield 18, 3) := by decide +kernel
theorem dX8_remove_69 : decode cX8_remove 69 = .ok (.aload_n 0, 1) := by decide +kernel
theorem dX8_remove_70 : decode cX8_remove 70 = .ok (.getfield 18, 3) := by decide +kernel
theorem dX8_remove_73 : decode cX8_remove 73 = .ok (.bipush 64, 2) := by decide +kernel
theorem dX8_remove_75 : decode cX8_remove 75 = .ok (.if_icmp .ge 13, 3) := by decide +kernel
theorem dX8_remove_78 : decode cX8_remove 78 = .ok (.aload_n 0, 1) := by decide +kernel
theorem dX8_remove_79 : decode cX8_remove 79 = .ok (.getfield 13, 3) := by decide +kernel
theorem dX8_remove_82 : decode cX8_remove 82 = .ok (.aload_n 0, 1) := by decide +kernel
theorem dX8_remove_83 : decode cX8_remove 83 = .ok (.getfield 18, 3) := by decide +kernel
theorem dX8_remove_86 : decode cX8_remove 86 = .ok (.aload_n 2, 1) := by decide +kernel
theorem dX8_remove_87 : decode cX8_remove 87 = .ok (.aastore, 1) := by decide +kernel
theorem dX8_remove_88 : decode cX8_remove 88 = .ok (.return_, 1) := by decide +kernel
theorem e_X8_remove_59 {X : gk_X} {F : Nat} {l0 : Nat} {l2 : Nat} {S : gk_S} {r : (Unit × gk_S)} (h0 : f_X8_remove_59 F l0 l2 S = some r) : EvW X m_X8_remove 2 0 0 59 [some (.ref l0), none, some (.ref l2), none] [] S (qRU r) := by
  unfold f_X8_remove_59 at h0
  refine ev_aload_n (pc := 59) (i := 0) rfl rfl rfl dX8_remove_59 ?_
  refine ev_dup (pc := 60) (.inr rfl) dX8_remove_60 ?_
  obtain ⟨g21, h22⟩ := qk_el h0; clear h0
  obtain ⟨x23, e24, h25⟩ := qv_el h22; clear h22
  refine xv_getIv (pc := 61) fn_601 (isb_el g21) e24 gw_238 dX8_remove_61 ?_
  refine ev_iconst (pc := 64) (v := 1) (by decide) dX8_remove_64 ?_
  refine ev_isub (pc := 65)  dX8_remove_65 ?_
  obtain ⟨S26, e27, h28⟩ := qv_el h25; clear h25
  refine yv_putI (pc := 66) fn_601 ⟨rfl, rfl⟩ (isb_el g21) e27 gw_238 dX8_remove_66 ?_
  refine ev_aload_n (pc := 69) (i := 0) rfl rfl rfl dX8_remove_69 ?_
  obtain ⟨x29, e30, h31⟩ := qv_el h28; clear h28
  refine xv_getIv (pc := 70) fn_601 (is_sI (isb_el g21) e27) e30 gw_238 dX8_remove_70 ?_
  refine ev_bipush (pc := 73) (v := 64) (by decide) dX8_remove_73 ?_
  refine ev_ic_ge (pc := 75) (tgt := 88) (by decide) dX8_remove_75 (fun c32 => ?_) (fun c32 => ?_)
  · replace h31 := qi_t h31 c32
    exact ev_return (pc := 88) rfl (qRU_eq h31) dX8_remove_88
  · replace h31 := qi_f h31 c32
    refine ev_aload_n (pc := 78) (i := 0) rfl rfl rfl dX8_remove_78 ?_
    obtain ⟨b34, e35, h36⟩ := qP_el h31; clear h31
    refine xv_getP (pc := 79) fn_600 (is_sI (isb_el g21) e27) e35 gw_237 dX8_remove_79 ?_
    refine ev_aload_n (pc := 82) (i := 0) rfl rfl rfl dX8_remove_82 ?_
    obtain ⟨x37, e38, h39⟩ := qv_el h36; clear h36
    refine xv_getIv (pc := 83) fn_601 (is_sI (isb_el g21) e27) e38 gw_238 dX8_remove_83 ?_
    refine ev_aload_n (pc := 86) (i := 2) rfl rfl rfl dX8_remove_86 ?_
    obtain ⟨g40, h41⟩ := qk_el h39; clear h39
    obtain ⟨g42, h43⟩ := qk_el h41; clear h41
    obtain ⟨g44, h45⟩ := qk_el h43; clear h43
    obtain ⟨S46, e47, h48⟩ := qv_el h45; clear h45
    refine yv_aast (pc := 87) (isb_el g40) (by decide) (isb_el g42) (inb_el g44) e47 dX8_remove_87 ?_
    exact ev_return (pc := 88) rfl (qRU_eq h48) dX8_remove_88
theorem e_X8_remove_21 {X : gk_X} {F : Nat} : ∀ (n : Nat) (l0 : Nat) (l2 : Nat) (l3 : Int32) (S : gk_S) (r : (Unit × gk_S)), f_X8_remove_21 F n l0 l2 l3 S = some r → EvW X m_X8_remove 2 0 0 21 [some (.ref l0), none, some (.ref l2), some (.int l3)] [] S (qRU r) := by
  intro n
  induction n with
  | zero => intro l0 l2 l3 S r h0; rw [f_X8_remove_21] at h0; cases h0
  | succ n ih =>
    intro l0 l2 l3 S r h0; rw [f_X8_remove_21] at h0
    refine ev_iload_n (pc := 21) (i := 3) rfl rfl dX8_remove_21 ?_
    refine ev_iconst (pc := 22) (v := 1) (by decide) dX8_remove_22 ?_
    refine ev_iadd (pc := 23)  dX8_remove_23 ?_
    refine ev_aload_n (pc := 24) (i := 0) rfl rfl rfl dX8_remove_24 ?_
    obtain ⟨g14, h15⟩ := qk_el h0; clear h0
    obtain ⟨x16, e17, h18⟩ := qv_el h15; clear h15
    refine xv_getIv (pc := 25) fn_601 (isb_el g14) e17 gw_238 dX8_remove_25 ?_
    refine ev_ic_ge (pc := 28) (tgt := 59) (by decide) dX8_remove_28 (fun c19 => ?_) (fun c19 => ?_)
    · replace h18 := qi_t h18 c19
      exact ev_weak (qL_s (qL_n (qL_s (qL_n qL_nil)))) (e_X8_remove_59 h18)
    · replace h18 := qi_f h18 c19
      refine ev_iload_n (pc := 31) (i := 3) rfl rfl dX8_remove_31 ?_
      refine ev_iconst (pc := 32) (v := 1) (by decide) dX8_remove_32 ?_
      refine ev_iadd (pc := 33)  dX8_remove_33 ?_
      refine ev_bipush (pc := 34) (v := 64) (by decide) dX8_remove_34 ?_
      refine ev_ic_ge (pc := 36) (tgt := 59) (by decide) dX8_remove_36 (fun c49 => ?_) (fun c49 => ?_)
      · replace h18 := qi_t h18 c49
        exact ev_weak (qL_s (qL_n (qL_s (qL_n qL_nil)))) (e_X8_remove_59 h18)
      · replace h18 := qi_f h18 c49
        refine ev_aload_n (pc := 39) (i := 0) rfl rfl rfl dX8_remove_39 ?_
        obtain ⟨b51, e52, h53⟩ := qP_el h18; clear h18
        refine xv_getP (pc := 40) fn_600 (isb_el g14) e52 gw_237 dX8_remove_40 ?_
        refine ev_iload_n (pc := 43) (i := 3) rfl rfl dX8_remove_43 ?_
        refine ev_aload_n (pc := 44) (i := 0) rfl rfl rfl dX8_remove_44 ?_
        obtain ⟨b54, e55, h56⟩ := qP_el h53; clear h53
        refine xv_getP (pc := 45) fn_600 (isb_el g14) e55 gw_237 dX8_remove_45 ?_
        refine ev_iload_n (pc := 48) (i := 3) rfl rfl dX8_remove_48 ?_
        refine ev_iconst (pc := 49) (v := 1) (by decide) dX8_remove_49 ?_
        refine ev_iadd (pc := 50)  dX8_remove_50 ?_
        obtain ⟨g57, h58⟩ := qk_el h56; clear h56
        obtain ⟨g59, h60⟩ := qk_el h58; clear h58
        obtain ⟨b61, e62, h63⟩ := qP_el h60; clear h60
        refine yv_aald (pc := 51) (isb_el g57) (by decide) (inb_el g59) e62 dX8_remove_51 ?_
        obtain ⟨g64, h65⟩ := qk_el h63; clear h63
        obtain ⟨g66, h67⟩ := qk_el h65; clear h65
        obtain ⟨g68, h69⟩ := qk_el h67; clear h67
        obtain ⟨S70, e71, h72⟩ := qv_el h69; clear h69
        refine yv_aast (pc := 52) (isb_el g64) (by decide) (isb_el g66) (inb_el g68) e71 dX8_remove_52 ?_
        refine ev_iinc (pc := 53) (L' := [some (.ref l0), none, some (.ref l2), some (.int (l3 + 1))]) (i := 3) (v := (l3 + 1)) rfl rfl (by decide) rfl rfl dX8_remove_53 ?_
        refine ev_goto (pc := 56) (tgt := 21) (by decide) dX8_remove_56 ?_
        exact (ev_weak (qL_s (qL_n (qL_s (qL_s qL_nil)))) (ih _ _ _ _ _ h72))
theorem e_X8_remove {X : gk_X} {F : Nat} {S : gk_S} {a : Nat} {p0 : Int32} {r : (Unit × gk_S)} (h0 : f_X8_remove F S a p0 = some r) : EvM X m_X8_remove 2 0 0 [.ref a, .int p0] S (qRU r) := by
  unfold f_X8_remove at h0
  refine ev_method (by decide +kernel) rfl rfl (Nat.le_of_ble_eq_true rfl) ?_
  show EvW X m_X8_remove 2 0 0 0 [some (.ref a), some (.int p0), none, none] [] S _
  refine ev_iload_n (pc := 0) (i := 1) rfl rfl dX8_remove_0 ?_
  refine ev_if_lt (pc := 1) (tgt := 12) (by decide) dX8_remove_1 (fun c1 => ?_) (fun c1 => ?_)
  · replace h0 := qi_t h0 c1
    exact ev_return (pc := 12) rfl (qRU_eq h0) dX8_remove_12
  · replace h0 := qi_f h0 c1
    refine ev_iload_n (pc := 4) (i := 1) rfl rfl dX8_remove_4 ?_
    refine ev_aload_n (pc := 5) (i := 0) rfl rfl rfl dX8_remove_5 ?_
    obtain ⟨g3, h4⟩ := qk_el h0; clear h0
    obtain ⟨x5, e6, h7⟩ := qv_el h4; clear h4
    refine xv_getIv (pc := 6) fn_601 (isb_el g3) e6 gw_238 dX8_remove_6 ?_
    refine ev_ic_lt (pc := 9) (tgt := 13) (by decide) dX8_remove_9 (fun c8 => ?_) (fun c8 => ?_)
    · replace h7 := qi_t h7 c8
      refine ev_aload_n (pc := 13) (i := 0) rfl rfl rfl dX8_remove_13 ?_
      refine ev_iload_n (pc := 14) (i := 1) rfl rfl dX8_remove_14 ?_
      obtain ⟨x10, S11, e12, h13⟩ := qc_el h7; clear h7
      refine xv_callV (pc := 15) (st := []) (as := [.int p0]) (v := (some (.ref x10))) (S' := S11) ok_X8_at (e_X8_at e12) (isb_el g3) (by decide) rfl (Nat.le_of_ble_eq_true rfl) rfl gw_358 dX8_remove_15 ?_
      refine ev_astore_n (pc := 18) (L' := [some (.ref a), some (.int p0), some (.ref x10), none]) (i := 2) rfl (by decide) rfl rfl rfl dX8_remove_18 ?_
      refine ev_iload_n (pc := 19) (i := 1) rfl rfl dX8_remove_19 ?_
      refine ev_istore_n (pc := 20) (L' := [some (.ref a), some (.int p0), some (.ref x10), some (.int p0)]) (i := 3) rfl (by decide) rfl rfl dX8_remove_20 ?_
      exact ev_weak (qL_s (qL_n (qL_s (qL_s qL_nil)))) (e_X8_remove_21 F _ _ _ _ _ h13)
    · replace h7 := qi_f h7 c8
      exact ev_return (pc := 12) rfl (qRU_eq h7) dX8_remove_12
theorem dX0_begin_0 : decode cX0_begin 0 = .ok (.aload_n 0, 1) := by decide +kernel
theorem dX0_begin_1 : decode cX0_begin 1 = .ok (.aload_n 1, 1) := by decide +kernel
theorem dX0_begin_2 : decode cX0_begin 2 = .ok (.getfield 41, 3) := by decide +kernel
theorem dX0_begin_5 : decode cX0_begin 5 = .ok (.iconst 1, 1) := by decide +kernel
theorem dX0_begin_6 : decode cX0_begin 6 = .ok (.laload, 1) := by decide +kernel
theorem dX0_begin_7 : decode cX0_begin 7 = .ok (.l2i, 1) := by decide +kernel
theorem dX0_begin_8 : decode cX0_begin 8 = .ok (.putfield 9, 3) := by decide +kernel
theorem dX0_begin_11 : decode cX0_begin 11 = .ok (.aload_n 0, 1) := by decide +kernel
theorem dX0_begin_12 : decode cX0_begin 12 = .ok (.aload_n 1, 1) := by decide +kernel
theorem dX0_begin_13 : decode cX0_begin 13 = .ok (.getfield 41, 3) := by decide +kernel
theorem dX0_begin_16 : decode cX0_begin 16 = .ok (.iconst 2, 1) := by decide +kernel
theorem dX0_begin_17 : decode cX0_begin 17 = .ok (.laload, 1) := by decide +kernel
theorem dX0_begin_18 : decode cX0_begin 18 = .ok (.putfield 15, 3) := by decide +kernel
theorem dX0_begin_21 : decode cX0_begin 21 = .ok (.aload_n 0, 1) := by decide +kernel
theorem dX0_begin_22 : decode cX0_begin 22 = .ok (.aload_n 1, 1) := by decide +kernel
theorem dX0_begin_23 : decode cX0_begin 23 = .ok (.getfield 41, 3) := by decide +kernel
theorem dX0_begin_26 : decode cX0_begin 26 = .ok (.iconst 3, 1) := by decide +kernel
theorem dX0_begin_27 : decode cX0_begin 27 = .ok (.laload, 1) := by decide +kernel
theorem dX0_begin_28 : decode cX0_begin 28 = .ok (.putfield 19, 3) := by decide +kernel
theorem dX0_begin_31 : decode cX0_begin 31 = .ok (.aload_n 0, 1) := by decide +kernel
theorem dX0_begin_32 : decode cX0_begin 32 = .ok (.aload_n 1, 1) := by decide +kernel
theorem dX0_begin_33 : decode cX0_begin 33 = .ok (.getfield 41, 3) := by decide +kernel
theorem dX0_begin_36 : decode cX0_begin 36 = .ok (.iconst 4, 1) := by decide +kernel
theorem dX0_begin_37 : decode cX0_begin 37 = .ok (.laload, 1) := by decide +kernel
theorem dX0_begin_38 : decode cX0_begin 38 = .ok (.putfield 22, 3) := by decide +kernel
theorem dX0_begin_41 : decode cX0_begin 41 = .ok (.aload_n 0, 1) := by decide +kernel
theorem dX0_begin_42 : decode cX0_begin 42 = .ok (.aload_n 1, 1) := by decide +kernel
theorem dX0_begin_43 : decode cX0_begin 43 = .ok (.getfield 41, 3) := by decide +kernel
theorem dX0_begin_46 : decode cX0_begin 46 = .ok (.iconst 5, 1) := by decide +kernel
theorem dX0_begin_47 : decode cX0_begin 47 = .ok (.laload, 1) := by decide +kernel
theorem dX0_begin_48 : decode cX0_begin 48 = .ok (.putfield 25, 3) := by decide +kernel
theorem dX0_begin_51 : decode cX0_begin 51 = .ok (.aload_n 0, 1) := by decide +kernel
theorem dX0_begin_52 : decode cX0_begin 52 = .ok (.aload_n 0, 1) := by decide +kernel
theorem dX0_begin_53 : decode cX0_begin 53 = .ok (.getfield 9, 3) := by decide +kernel
theorem dX0_begin_56 : decode cX0_begin 56 = .ok (.bipush 6, 2) := by decide +kernel
theorem dX0_begin_58 : decode cX0_begin 58 = .ok (.if_icmp .ne 7, 3) := by decide +kernel
theorem dX0_begin_61 : decode cX0_begin 61 = .ok (.iconst 1, 1) := by decide +kernel
theorem dX0_begin_62 : decode cX0_begin 62 = .ok (.goto 4, 3) := by decide +kernel
theorem dX0_begin_65 : decode cX0_begin 65 = .ok (.iconst 0, 1) := by decide +kernel
theorem dX0_begin_66 : decode cX0_begin 66 = .ok (.putfield 28, 3) := by decide +kernel
theorem dX0_begin_69 : decode cX0_begin 69 = .ok (.aload_n 0, 1) := by decide +kernel
theorem dX0_begin_70 : decode cX0_begin 70 = .ok (.iconst 0, 1) := by decide +kernel
theorem dX0_begin_71 : decode cX0_begin 71 = .ok (.putfield 31, 3) := by decide +kernel
theorem dX0_begin_74 : decode cX0_begin 74 = .ok (.aload_n 0, 1) := by decide +kernel
theorem dX0_begin_75 : decode cX0_begin 75 = .ok (.iconst 0, 1) := by decide +kernel
theorem dX0_begin_76 : decode cX0_begin 76 = .ok (.putfield 35, 3) := by decide +kernel
theorem dX0_begin_79 : decode cX0_begin 79 = .ok (.return_, 1) := by decide +kernel
theorem e_X0_begin_66 {X : gk_X} {F : Nat} {l0 : Nat} {s0 : Int32} {s1 : Nat} {S : gk_S} {r : (Unit × gk_S)} (h0 : f_X0_begin_66 F l0 s0 s1 S = some r) : EvW X m_X0_begin 1 0 0 66 [some (.ref l0), none] [.int s0, .ref s1] S (qRU r) := by
  unfold f_X0_begin_66 at h0
  obtain ⟨g75, h76⟩ := qk_el h0; clear h0
  obtain ⟨S77, e78, h79⟩ := qv_el h76; clear h76
  refine yv_putI (pc := 66) fn_5 ⟨rfl, rfl⟩ (isb_el g75) e78 gw_212 dX0_begin_66 ?_
  refine ev_aload_n (pc := 69) (i := 0) rfl rfl rfl dX0_begin_69 ?_
  refine ev_iconst (pc := 70) (v := 0) (by decide) dX0_begin_70 ?_
  obtain ⟨g80, h81⟩ := qk_el h79; clear h79
  obtain ⟨S82, e83, h84⟩ := qv_el h81; clear h81
  refine yv_putI (pc := 71) fn_6 ⟨rfl, rfl⟩ (isb_el g80) e83 gw_213 dX0_begin_71 ?_
  refine ev_aload_n (pc := 74) (i := 0) rfl rfl rfl dX0_begin_74 ?_
  refine ev_iconst (pc := 75) (v := 0) (by decide) dX0_begin_75 ?_
  obtain ⟨S85, e86, h87⟩ := qv_el h84; clear h84
  refine yv_putI (pc := 76) fn_7 ⟨rfl, rfl⟩ (is_sI (isb_el g80) e83) e86 gw_215 dX0_begin_76 ?_
  exact ev_return (pc := 79) rfl (qRU_eq h87) dX0_begin_79
theorem e_X0_begin {X : gk_X} {F : Nat} {S : gk_S} {a : Nat} {p0 : Nat} {r : (Unit × gk_S)} (h0 : f_X0_begin F S a p0 = some r) : EvM X m_X0_begin 1 0 0 [.ref a, .ref p0] S (qRU r) := by
  unfold f_X0_begin at h0
  refine ev_method (by decide +kernel) rfl rfl (Nat.le_of_ble_eq_true rfl) ?_
  show EvW X m_X0_begin 1 0 0 0 [some (.ref a), some (.ref p0)] [] S _
  refine ev_aload_n (pc := 0) (i := 0) rfl rfl rfl dX0_begin_0 ?_
  refine ev_aload_n (pc := 1) (i := 1) rfl rfl rfl dX0_begin_1 ?_
  obtain ⟨g1, h2⟩ := qk_el h0; clear h0
  obtain ⟨b3, e4, h5⟩ := qP_el h2; clear h2
  refine xv_getP (pc := 2) fn_200 (isb_el g1) e4 gw_268 dX0_begin_2 ?_
  refine ev_iconst (pc := 5) (v := 1) (by decide) dX0_begin_5 ?_
  obtain ⟨g6, h7⟩ := qk_el h5; clear h5
  obtain ⟨g8, h9⟩ := qk_el h7; clear h7
  obtain ⟨x10, e11, h12⟩ := qv_el h9; clear h9
  refine yv_lald (pc := 6) (isb_el g6) (inb_el g8) e11 dX0_begin_6 ?_
  refine ev_l2i (pc := 7)  dX0_begin_7 ?_
  obtain ⟨g13, h14⟩ := qk_el h12; clear h12
  obtain ⟨S15, e16, h17⟩ := qv_el h14; clear h14
  refine yv_putI (pc := 8) fn_0 ⟨rfl, rfl⟩ (isb_el g13) e16 gw_207 dX0_begin_8 ?_
  refine ev_aload_n (pc := 11) (i := 0) rfl rfl rfl dX0_begin_11 ?_
  refine ev_aload_n (pc := 12) (i := 1) rfl rfl rfl dX0_begin_12 ?_
  obtain ⟨b18, e19, h20⟩ := qP_el h17; clear h17
  refine xv_getP (pc := 13) fn_200 (is_sI (isb_el g1) e16) e19 gw_268 dX0_begin_13 ?_
  refine ev_iconst (pc := 16) (v := 2) (by decide) dX0_begin_16 ?_
  obtain ⟨g21, h22⟩ := qk_el h20; clear h20
  obtain ⟨g23, h24⟩ := qk_el h22; clear h22
  obtain ⟨x25, e26, h27⟩ := qv_el h24; clear h24
  refine yv_lald (pc := 17) (isb_el g21) (inb_el g23) e26 dX0_begin_17 ?_
  obtain ⟨S28, e29, h30⟩ := qv_el h27; clear h27
  refine yv_putJ (pc := 18) fn_1 (is_sI (isb_el g13) e16) e29 gw_208 dX0_begin_18 ?_
  refine ev_aload_n (pc := 21) (i := 0) rfl rfl rfl dX0_begin_21 ?_
  refine ev_aload_n (pc := 22) (i := 1) rfl rfl rfl dX0_begin_22 ?_
  obtain ⟨b31, e32, h33⟩ := qP_el h30; clear h30
  refine xv_getP (pc := 23) fn_200 (is_sJ (is_sI (isb_el g1) e16) e29) e32 gw_268 dX0_begin_23 ?_
  refine ev_iconst (pc := 26) (v := 3) (by decide) dX0_begin_26 ?_
  obtain ⟨g34, h35⟩ := qk_el h33; clear h33
  obtain ⟨g36, h37⟩ := qk_el h35; clear h35
  obtain ⟨x38, e39, h40⟩ := qv_el h37; clear h37
  refine yv_lald (pc := 27) (isb_el g34) (inb_el g36) e39 dX0_begin_27 ?_
  obtain ⟨S41, e42, h43⟩ := qv_el h40; clear h40
  refine yv_putJ (pc := 28) fn_2 (is_sJ (is_sI (isb_el g13) e16) e29) e42 gw_209 dX0_begin_28 ?_
  refine ev_aload_n (pc := 31) (i := 0) rfl rfl rfl dX0_begin_31 ?_
  refine ev_aload_n (pc := 32) (i := 1) rfl rfl rfl dX0_begin_32 ?_
  obtain ⟨b44, e45, h46⟩ := qP_el h43; clear h43
  refine xv_getP (pc := 33) fn_200 (is_sJ (is_sJ (is_sI (isb_el g1) e16) e29) e42) e45 gw_268 dX0_begin_33 ?_
  refine ev_iconst (pc := 36) (v := 4) (by decide) dX0_begin_36 ?_
  obtain ⟨g47, h48⟩ := qk_el h46; clear h46
  obtain ⟨g49, h50⟩ := qk_el h48; clear h48
  obtain ⟨x51, e52, h53⟩ := qv_el h50; clear h50
  refine yv_lald (pc := 37) (isb_el g47) (inb_el g49) e52 dX0_begin_37 ?_
  obtain ⟨S54, e55, h56⟩ := qv_el h53; clear h53
  refine yv_putJ (pc := 38) fn_3 (is_sJ (is_sJ (is_sI (isb_el g13) e16) e29) e42) e55 gw_210 dX0_begin_38 ?_
  refine ev_aload_n (pc := 41) (i := 0) rfl rfl rfl dX0_begin_41 ?_
  refine ev_aload_n (pc := 42) (i := 1) rfl rfl rfl dX0_begin_42 ?_
  obtain ⟨b57, e58, h59⟩ := qP_el h56; clear h56
  refine xv_getP (pc := 43) fn_200 (is_sJ (is_sJ (is_sJ (is_sI (isb_el g1) e16) e29) e42) e55) e58 gw_268 dX0_begin_43 ?_
  refine ev_iconst (pc := 46) (v := 5) (by decide) dX0_begin_46 ?_
  obtain ⟨g60, h61⟩ := qk_el h59; clear h59
  obtain ⟨g62, h63⟩ := qk_el h61; clear h61
  obtain ⟨x64, e65, h66⟩ := qv_el h63; clear h63
  refine yv_lald (pc := 47) (isb_el g60) (inb_el g62) e65 dX0_begin_47 ?_
  obtain ⟨S67, e68, h69⟩ := qv_el h66; clear h66
  refine yv_putJ (pc := 48) fn_4 (is_sJ (is_sJ (is_sJ (is_sI (isb_el g13) e16) e29) e42) e55) e68 gw_211 dX0_begin_48 ?_
  refine ev_aload_n (pc := 51) (i := 0) rfl rfl rfl dX0_begin_51 ?_
  refine ev_aload_n (pc := 52) (i := 0) rfl rfl rfl dX0_begin_52 ?_
  obtain ⟨x70, e71, h72⟩ := qv_el h69; clear h69
  refine xv_getIv (pc := 53) fn_0 (is_sJ (is_sJ (is_sJ (is_sJ (is_sI (isb_el g13) e16) e29) e42) e55) e68) e71 gw_207 dX0_begin_53 ?_
  refine ev_bipush (pc := 56) (v := 6) (by decide) dX0_begin_56 ?_
  refine ev_ic_ne (pc := 58) (tgt := 65) (by decide) dX0_begin_58 (fun c73 => ?_) (fun c73 => ?_)
  · replace h72 := qi_f h72 c73
    refine ev_iconst (pc := 65) (v := 0) (by decide) dX0_begin_65 ?_
    exact ev_weak (qL_s (qL_n qL_nil)) (e_X0_begin_66 h72)
  · replace h72 := qi_t h72 c73
    refine ev_iconst (pc := 61) (v := 1) (by decide) dX0_begin_61 ?_
    refine ev_goto (pc := 62) (tgt := 66) (by decide) dX0_begin_62 ?_
    exact ev_weak (qL_s (qL_n qL_nil)) (e_X0_begin_66 h72)
theorem dX8_begin_0 : decode cX8_begin 0 = .ok (.aload_n 0, 1) := by decide +kernel
theorem dX8_begin_1 : decode cX8_begin 1 = .ok (.getfield 18, 3) := by decide +kernel
theorem dX8_begin_4 : decode cX8_begin 4 = .ok (.aload_n 0, 1) := by decide +kernel
theorem dX8_begin_5 : decode cX8_begin 5 = .ok (.getfield 22, 3) := by decide +kernel
theorem dX8_begin_8 : decode cX8_begin 8 = .ok (.if_icmp .lt 40, 3) := by decide +kernel
theorem dX8_begin_11 : decode cX8_begin 11 = .ok (.aload_n 0, 1) := by decide +kernel
theorem dX8_begin_12 : decode cX8_begin 12 = .ok (.invokevirtual 72, 3) := by decide +kernel
theorem dX8_begin_15 : decode cX8_begin 15 = .ok (.istore_n 2, 1) := by decide +kernel
theorem dX8_begin_16 : decode cX8_begin 16 = .ok (.iload_n 2, 1) := by decide +kernel
theorem dX8_begin_17 : decode cX8_begin 17 = .ok (.iconst (-1), 1) := by decide +kernel
theorem dX8_begin_18 : decode cX8_begin 18 = .ok (.if_icmp .ne 15, 3) := by decide +kernel
theorem dX8_begin_21 : decode cX8_begin 21 = .ok (.aload_n 0, 1) := by decide +kernel
theorem dX8_begin_22 : decode cX8_begin 22 = .ok (.dup, 1) := by decide +kernel
theorem dX8_begin_23 : decode cX8_begin 23 = .ok (.getfield 31, 3) := by decide +kernel
theorem dX8_begin_26 : decode cX8_begin 26 = .ok (.iconst 1, 1) := by decide +kernel
theorem dX8_begin_27 : decode cX8_begin 27 = .ok (.iadd, 1) := by decide +kernel
theorem dX8_begin_28 : decode cX8_begin 28 = .ok (.putfield 31, 3) := by decide +kernel
theorem dX8_begin_31 : decode cX8_begin 31 = .ok (.iconst 0, 1) := by decide +kernel
theorem dX8_begin_32 : decode cX8_begin 32 = .ok (.ireturn, 1) := by decide +kernel
theorem dX8_begin_33 : decode cX8_begin 33 = .ok (.aload_n 0, 1) := by decide +kernel
theorem dX8_begin_34 : decode cX8_begin 34 = .ok (.iload_n 2, 1) := by decide +kernel
theorem dX8_begin_35 : decode cX8_begin 35 = .ok (.invokevirtual 42, 3) := by decide +kernel
theorem dX8_begin_38 : decode cX8_begin 38 = .ok (.aload_n 0, 1) := by decide +kernel
theorem dX8_begin_39 : decode cX8_begin 39 = .ok (.dup, 1) := by decide +kernel
theorem dX8_begin_40 : decode cX8_begin 40 = .ok (.getfield 28, 3) := by decide +kernel
theorem dX8_begin_43 : decode cX8_begin 43 = .ok (.iconst 1, 1) := by decide +kernel
theorem dX8_begin_44 : decode cX8_begin 44 = .ok (.iadd, 1) := by decide +kernel
theorem dX8_begin_45 : decode cX8_begin 45 = .ok (.putfield 28, 3) := by decide +kernel
theorem dX8_begin_48 : decode cX8_begin 48 = .ok (.aload_n 0, 1) := by decide +kernel
theorem dX8_begin_49 : decode cX8_begin 49 = .ok (.aload_n 0, 1) := by decide +kernel
theorem dX8_begin_50 : decode cX8_begin 50 = .ok (.getfield 18, 3) := by decide +kernel
theorem dX8_begin_53 : decode cX8_begin 53 = .ok (.invokevirtual 35, 3) := by decide +kernel
theorem dX8_begin_56 : decode cX8_begin 56 = .ok (.astore_n 2, 1) := by decide +kernel
theorem dX8_begin_57 : decode cX8_begin 57 = .ok (.aload_n 2, 1) := by decide +kernel
theorem dX8_begin_58 : decode cX8_begin 58 = .ok (.aload_n 1, 1) := by decide +kernel
theorem dX8_begin_59 : decode cX8_begin 59 = .ok (.invokevirtual 75, 3) := by decide +kernel
theorem dX8_begin_62 : decode cX8_begin 62 = .ok (.aload_n 2, 1) := by decide +kernel
theorem dX8_begin_63 : decode cX8_begin 63 = .ok (.aload_n 0, 1) := by decide +kernel
theorem dX8_begin_64 : decode cX8_begin 64 = .ok (.getfield 25, 3) := by decide +kernel
theorem dX8_begin_67 : decode cX8_begin 67 = .ok (.aload_n 2, 1) := by decide +kernel
theorem dX8_begin_68 : decode cX8_begin 68 = .ok (.invokevirtual 68, 3) := by decide +kernel
theorem dX8_begin_71 : decode cX8_begin 71 = .ok (.iadd, 1) := by decide +kernel
theorem dX8_begin_72 : decode cX8_begin 72 = .ok (.putfield 39, 3) := by decide +kernel
theorem dX8_begin_75 : decode cX8_begin 75 = .ok (.aload_n 0, 1) := by decide +kernel
theorem dX8_begin_76 : decode cX8_begin 76 = .ok (.dup, 1) := by decide +kernel
theorem dX8_begin_77 : decode cX8_begin 77 = .ok (.getfield 18, 3) := by decide +kernel
theorem dX8_begin_80 : decode cX8_begin 80 = .ok (.iconst 1, 1) := by decide +kernel
theorem dX8_begin_81 : decode cX8_begin 81 = .ok (.iadd, 1) := by decide +kernel
theorem dX8_begin_82 : decode cX8_begin 82 = .ok (.putfield 18, 3) := by decide +kernel
theorem dX8_begin_85 : decode cX8_begin 85 = .ok (.iconst 1, 1) := by decide +kernel
theorem dX8_begin_86 : decode cX8_begin 86 = .ok (.ireturn, 1) := by decide +kernel
theorem e_X8_begin_48 {X : gk_X} {F : Nat} {l0 : Nat} {l1 : Nat} {S : gk_S} {r : (Int32 × gk_S)} (h0 : f_X8_begin_48 F l0 l1 S = some r) : EvW X m_X8_begin 3 0 0 48 [some (.ref l0), some (.ref l1), none] [] S (qRI r) := by
  unfold f_X8_begin_48 at h0
  refine ev_aload_n (pc := 48) (i := 0) rfl rfl rfl dX8_begin_48 ?_
  refine ev_aload_n (pc := 49) (i := 0) rfl rfl rfl dX8_begin_49 ?_
  obtain ⟨g11, h12⟩ := qk_el h0; clear h0
  obtain ⟨x13, e14, h15⟩ := qv_el h12; clear h12
  refine xv_getIv (pc := 50) fn_601 (isb_el g11) e14 gw_238 dX8_begin_50 ?_
  obtain ⟨x16, S17, e18, h19⟩ := qc_el h15; clear h15
  refine xv_callV (pc := 53) (st := []) (as := [.int x13]) (v := (some (.ref x16))) (S' := S17) ok_X8_at (e_X8_at e18) (isb_el g11) (by decide) rfl (Nat.le_of_ble_eq_true rfl) rfl gw_358 dX8_begin_53 ?_
  refine ev_astore_n (pc := 56) (L' := [some (.ref l0), some (.ref l1), some (.ref x16)]) (i := 2) rfl (by decide) rfl rfl rfl dX8_begin_56 ?_
  refine ev_aload_n (pc := 57) (i := 2) rfl rfl rfl dX8_begin_57 ?_
  refine ev_aload_n (pc := 58) (i := 1) rfl rfl rfl dX8_begin_58 ?_
  obtain ⟨g20, h21⟩ := qk_el h19; clear h19
  obtain ⟨x22, S23, e24, h25⟩ := qc_el h21; clear h21
  refine xv_callV (pc := 59) (st := []) (as := [.ref l1]) (v := none) (S' := S23) ok_X0_begin (e_X0_begin e24) (isb_el g20) (by decide) rfl (Nat.le_of_ble_eq_true rfl) rfl gw_1008 dX8_begin_59 ?_
  refine ev_aload_n (pc := 62) (i := 2) rfl rfl rfl dX8_begin_62 ?_
  refine ev_aload_n (pc := 63) (i := 0) rfl rfl rfl dX8_begin_63 ?_
  obtain ⟨g26, h27⟩ := qk_el h25; clear h25
  obtain ⟨x28, e29, h30⟩ := qv_el h27; clear h27
  refine xv_getIv (pc := 64) fn_603 (isb_el g26) e29 gw_242 dX8_begin_64 ?_
  refine ev_aload_n (pc := 67) (i := 2) rfl rfl rfl dX8_begin_67 ?_
  obtain ⟨g31, h32⟩ := qk_el h30; clear h30
  obtain ⟨x33, S34, e35, h36⟩ := qc_el h32; clear h32
  refine xv_callV (pc := 68) (st := [.int x28, .ref x16]) (as := []) (v := (some (.int x33))) (S' := S34) ok_X0_lifetime (e_X0_lifetime e35) (isb_el g31) (by decide) rfl (Nat.le_of_ble_eq_true rfl) rfl gw_991 dX8_begin_68 ?_
  refine ev_iadd (pc := 71)  dX8_begin_71 ?_
  obtain ⟨g37, h38⟩ := qk_el h36; clear h36
  obtain ⟨S39, e40, h41⟩ := qv_el h38; clear h38
  refine yv_putI (pc := 72) fn_8 ⟨rfl, rfl⟩ (isb_el g37) e40 gw_217 dX8_begin_72 ?_
  refine ev_aload_n (pc := 75) (i := 0) rfl rfl rfl dX8_begin_75 ?_
  refine ev_dup (pc := 76) (.inr rfl) dX8_begin_76 ?_
  obtain ⟨g42, h43⟩ := qk_el h41; clear h41
  obtain ⟨x44, e45, h46⟩ := qv_el h43; clear h43
  refine xv_getIv (pc := 77) fn_601 (isb_el g42) e45 gw_238 dX8_begin_77 ?_
  refine ev_iconst (pc := 80) (v := 1) (by decide) dX8_begin_80 ?_
  refine ev_iadd (pc := 81)  dX8_begin_81 ?_
  obtain ⟨S47, e48, h49⟩ := qv_el h46; clear h46
  refine yv_putI (pc := 82) fn_601 ⟨rfl, rfl⟩ (isb_el g42) e48 gw_238 dX8_begin_82 ?_
  refine ev_iconst (pc := 85) (v := 1) (by decide) dX8_begin_85 ?_
  exact ev_ireturn (pc := 86) rfl rfl (qRI_eq h49) dX8_begin_86
theorem e_X8_begin {X : gk_X} {F : Nat} {S : gk_S} {a : Nat} {p0 : Nat} {r : (Int32 × gk_S)} (h0 : f_X8_begin F S a p0 = some r) : EvM X m_X8_begin 3 0 0 [.ref a, .ref p0] S (qRI r) := by
  unfold f_X8_begin at h0
  refine ev_method (by decide +kernel) rfl rfl (Nat.le_of_ble_eq_true rfl) ?_
  show EvW X m_X8_begin 3 0 0 0 [some (.ref a), some (.ref p0), none] [] S _
  refine ev_aload_n (pc := 0) (i := 0) rfl rfl rfl dX8_begin_0 ?_
  obtain ⟨g1, h2⟩ := qk_el h0; clear h0
  obtain ⟨x3, e4, h5⟩ := qv_el h2; clear h2
  refine xv_getIv (pc := 1) fn_601 (isb_el g1) e4 gw_238 dX8_begin_1 ?_
  refine ev_aload_n (pc := 4) (i := 0) rfl rfl rfl dX8_begin_4 ?_
  obtain ⟨x6, e7, h8⟩ := qv_el h5; clear h5
  refine xv_getIv (pc := 5) fn_602 (isb_el g1) e7 gw_240 dX8_begin_5 ?_
  refine ev_ic_lt (pc := 8) (tgt := 48) (by decide) dX8_begin_8 (fun c9 => ?_) (fun c9 => ?_)
  · replace h8 := qi_t h8 c9
    exact ev_weak (qL_s (qL_s (qL_n qL_nil))) (e_X8_begin_48 h8)
  · replace h8 := qi_f h8 c9
    refine ev_aload_n (pc := 11) (i := 0) rfl rfl rfl dX8_begin_11 ?_
    obtain ⟨x50, S51, e52, h53⟩ := qc_el h8; clear h8
    refine xv_callV (pc := 12) (st := []) (as := []) (v := (some (.int x50))) (S' := S51) ok_X8_leastNeeded (e_X8_leastNeeded e52) (isb_el g1) (by decide) rfl (Nat.le_of_ble_eq_true rfl) rfl gw_1004 dX8_begin_12 ?_
    refine ev_istore_n (pc := 15) (L' := [some (.ref a), some (.ref p0), some (.int x50)]) (i := 2) rfl (by decide) rfl rfl dX8_begin_15 ?_
    refine ev_iload_n (pc := 16) (i := 2) rfl rfl dX8_begin_16 ?_
    refine ev_iconst (pc := 17) (v := -1) (by decide) dX8_begin_17 ?_
    refine ev_ic_ne (pc := 18) (tgt := 33) (by decide) dX8_begin_18 (fun c54 => ?_) (fun c54 => ?_)
    · replace h53 := qi_f h53 c54
      refine ev_aload_n (pc := 33) (i := 0) rfl rfl rfl dX8_begin_33 ?_
      refine ev_iload_n (pc := 34) (i := 2) rfl rfl dX8_begin_34 ?_
      obtain ⟨g56, h57⟩ := qk_el h53; clear h53
      obtain ⟨x58, S59, e60, h61⟩ := qc_el h57; clear h57
      refine xv_callV (pc := 35) (st := []) (as := [.int x50]) (v := none) (S' := S59) ok_X8_remove (e_X8_remove e60) (isb_el g56) (by decide) rfl (Nat.le_of_ble_eq_true rfl) rfl gw_362 dX8_begin_35 ?_
      refine ev_aload_n (pc := 38) (i := 0) rfl rfl rfl dX8_begin_38 ?_
      refine ev_dup (pc := 39) (.inr rfl) dX8_begin_39 ?_
      obtain ⟨g62, h63⟩ := qk_el h61; clear h61
      obtain ⟨x64, e65, h66⟩ := qv_el h63; clear h63
      refine xv_getIv (pc := 40) fn_604 (isb_el g62) e65 gw_244 dX8_begin_40 ?_
      refine ev_iconst (pc := 43) (v := 1) (by decide) dX8_begin_43 ?_
      refine ev_iadd (pc := 44)  dX8_begin_44 ?_
      obtain ⟨S67, e68, h69⟩ := qv_el h66; clear h66
      refine yv_putI (pc := 45) fn_604 ⟨rfl, rfl⟩ (isb_el g62) e68 gw_244 dX8_begin_45 ?_
      exact ev_weak (qL_s (qL_s (qL_n qL_nil))) (e_X8_begin_48 h69)
    · replace h53 := qi_t h53 c54
      refine ev_aload_n (pc := 21) (i := 0) rfl rfl rfl dX8_begin_21 ?_
      refine ev_dup (pc := 22) (.inr rfl) dX8_begin_22 ?_
      obtain ⟨g70, h71⟩ := qk_el h53; clear h53
      obtain ⟨x72, e73, h74⟩ := qv_el h71; clear h71
      refine xv_getIv (pc := 23) fn_605 (isb_el g70) e73 gw_246 dX8_begin_23 ?_
      refine ev_iconst (pc := 26) (v := 1) (by decide) dX8_begin_26 ?_
      refine ev_iadd (pc := 27)  dX8_begin_27 ?_
      obtain ⟨S75, e76, h77⟩ := qv_el h74; clear h74
      refine yv_putI (pc := 28) fn_605 ⟨rfl, rfl⟩ (isb_el g70) e76 gw_246 dX8_begin_28 ?_
      refine ev_iconst (pc := 31) (v := 0) (by decide) dX8_begin_31 ?_
      exact ev_ireturn (pc := 32) rfl rfl (qRI_eq h77) dX8_begin_32
theorem dX11_judge_0 : decode cX11_judge 0 = .ok (.aload_n 0, 1) := by decide +kernel
theorem dX11_judge_1 : decode cX11_judge 1 = .ok (.dup, 1) := by decide +kernel
theorem dX11_judge_2 : decode cX11_judge 2 = .ok (.getfield 80, 3) := by decide +kernel
theorem dX11_judge_5 : decode cX11_judge 5 = .ok (.iconst 1, 1) := by decide +kernel
theorem dX11_judge_6 : decode cX11_judge 6 = .ok (.iadd, 1) := by decide +kernel
theorem dX11_judge_7 : decode cX11_judge 7 = .ok (.putfield 80, 3) := by decide +kernel
theorem dX11_judge_10 : decode cX11_judge 10 = .ok (.iload_n 1, 1) := by decide +kernel
theorem dX11_judge_11 : decode cX11_judge 11 = .ok (.ifCond .eq 22, 3) := by decide +kernel
theorem dX11_judge_14 : decode cX11_judge 14 = .ok (.aload_n 0, 1) := by decide +kernel
theorem dX11_judge_15 : decode cX11_judge 15 = .ok (.getfield 51, 3) := by decide +kernel
theorem dX11_judge_18 : decode cX11_judge 18 = .ok (.aload_n 0, 1) := by decide +kernel
theorem dX11_judge_19 : decode cX11_judge 19 = .ok (.getfield 62, 3) := by decide +kernel
theorem dX11_judge_22 : decode cX11_judge 22 = .ok (.invokevirtual 269, 3) := by decide +kernel
theorem dX11_judge_25 : decode cX11_judge 25 = .ok (.iconst (-1), 1) := by decide +kernel
theorem dX11_judge_26 : decode cX11_judge 26 = .ok (.if_icmp .eq 7, 3) := by decide +kernel
theorem dX11_judge_29 : decode cX11_judge 29 = .ok (.iconst 1, 1) := by decide +kernel
theorem dX11_judge_30 : decode cX11_judge 30 = .ok (.goto 4, 3) := by decide +kernel
theorem dX11_judge_33 : decode cX11_judge 33 = .ok (.iconst 0, 1) := by decide +kernel
theorem dX11_judge_34 : decode cX11_judge 34 = .ok (.istore_n 2, 1) := by decide +kernel
theorem dX11_judge_35 : decode cX11_judge 35 = .ok (.iload_n 2, 1) := by decide +kernel
theorem dX11_judge_36 : decode cX11_judge 36 = .ok (.ifCond .eq 7, 3) := by decide +kernel
theorem dX11_judge_39 : decode cX11_judge 39 = .ok (.iconst (-1), 1) := by decide +kernel
theorem dX11_judge_40 : decode cX11_judge 40 = .ok (.goto 14, 3) := by decide +kernel
theorem dX11_judge_43 : decode cX11_judge 43 = .ok (.aload_n 0, 1) := by decide +kernel
theorem dX11_judge_44 : decode cX11_judge 44 = .ok (.getfield 51, 3) := by decide +kernel
theorem dX11_judge_47 : decode cX11_judge 47 = .ok (.aload_n 0, 1) := by decide +kernel
theorem dX11_judge_48 : decode cX11_judge 48 = .ok (.getfield 58, 3) := by decide +kernel
theorem dX11_judge_51 : decode cX11_judge 51 = .ok (.invokevirtual 269, 3) := by decide +kernel
theorem dX11_judge_54 : decode cX11_judge 54 = .ok (.istore_n 3, 1) := by decide +kernel
theorem dX11_judge_55 : decode cX11_judge 55 = .ok (.iload_n 2, 1) := by decide +kernel
theorem dX11_judge_56 : decode cX11_judge 56 = .ok (.ifCond .eq 7, 3) := by decide +kernel
theorem dX11_judge_59 : decode cX11_judge 59 = .ok (.iconst 2, 1) := by decide +kernel
theorem dX11_judge_60 : decode cX11_judge 60 = .ok (.goto 15, 3) := by decide +kernel
theorem dX11_judge_63 : decode cX11_judge 63 = .ok (.aload_n 0, 1) := by decide +kernel
theorem dX11_judge_64 : decode cX11_judge 64 = .ok (.getfield 51, 3) := by decide +kernel
theorem dX11_judge_67 : decode cX11_judge 67 = .ok (.aload_n 0, 1) := by decide +kernel
theorem dX11_judge_68 : decode cX11_judge 68 = .ok (.getfield 58, 3) := by decide +kernel
theorem dX11_judge_71 : decode cX11_judge 71 = .ok (.iload_n 3, 1) := by decide +kernel
theorem dX11_judge_72 : decode cX11_judge 72 = .ok (.invokevirtual 272, 3) := by decide +kernel
theorem dX11_judge_75 : decode cX11_judge 75 = .ok (.istore 4, 2) := by decide +kernel
theorem dX11_judge_77 : decode cX11_judge 77 = .ok (.aload_n 0, 1) := by decide +kernel
theorem dX11_judge_78 : decode cX11_judge 78 = .ok (.getfield 23, 3) := by decide +kernel
theorem dX11_judge_81 : decode cX11_judge 81 = .ok (.iconst 0, 1) := by decide +kernel
theorem dX11_judge_82 : decode cX11_judge 82 = .ok (.aaload, 1) := by decide +kernel
theorem dX11_judge_83 : decode cX11_judge 83 = .ok (.aload_n 0, 1) := by decide +kernel
theorem dX11_judge_84 : decode cX11_judge 84 = .ok (.getfield 58, 3) := by decide +kernel
theorem dX11_judge_87 : decode cX11_judge 87 = .ok (.iload 4, 2) := by decide +kernel
theorem dX11_judge_89 : decode cX11_judge 89 = .ok (.invokevirtual 275, 3) := by decide +kernel
theorem dX11_judge_92 : decode cX11_judge 92 = .ok (.istore 5, 2) := by decide +kernel
theorem dX11_judge_94 : decode cX11_judge 94 = .ok (.iload 5, 2) := by decide +kernel
theorem dX11_judge_96 : decode cX11_judge 96 = .ok (.iconst 4, 1) := by decide +kernel
theorem dX11_judge_97 : decode cX11_judge 97 = .ok (.iload 4, 2) := by decide +kernel
theorem dX11_judge_99 : decode cX11_judge 99 = .ok (.imul, 1) := by decide +kernel
theorem dX11_judge_100 : decode cX11_judge 100 = .ok (.iadd, 1) := by decide +kernel
theorem dX11_judge_101 : decode cX11_judge 101 = .ok (.istore 6, 2) := by decide +kernel
theorem dX11_judge_103 : decode cX11_judge 103 = .ok (.iload 5, 2) := by decide +kernel
theorem dX11_judge_105 : decode cX11_judge 105 = .ok (.iconst 1, 1) := by decide +kernel
theorem dX11_judge_106 : decode cX11_judge 106 = .ok (.if_icmp .ne 15, 3) := by decide +kernel
theorem dX11_judge_109 : decode cX11_judge 109 = .ok (.iload 4, 2) := by decide +kernel
theorem dX11_judge_111 : decode cX11_judge 111 = .ok (.iconst 2, 1) := by decide +kernel
theorem dX11_judge_112 : decode cX11_judge 112 = .ok (.if_icmp .eq 9, 3) := by decide +kernel
theorem dX11_judge_115 : decode cX11_judge 115 = .ok (.iload 4, 2) := by decide +kernel
theorem dX11_judge_117 : decode cX11_judge 117 = .ok (.iconst 3, 1) := by decide +kernel
theorem dX11_judge_118 : decode cX11_judge 118 = .ok (.if_icmp .ne 6, 3) := by decide +kernel
theorem dX11_judge_121 : decode cX11_judge 121 = .ok (.iload 6, 2) := by decide +kernel
theorem dX11_judge_123 : decode cX11_judge 123 = .ok (.ireturn, 1) := by decide +kernel
theorem dX11_judge_124 : decode cX11_judge 124 = .ok (.iload_n 3, 1) := by decide +kernel
theorem dX11_judge_125 : decode cX11_judge 125 = .ok (.iconst (-1), 1) := by decide +kernel
theorem dX11_judge_126 : decode cX11_judge 126 = .ok (.if_icmp .eq 18, 3) := by decide +kernel
theorem dX11_judge_129 : decode cX11_judge 129 = .ok (.aload_n 0, 1) := by decide +kernel
theorem dX11_judge_130 : decode cX11_judge 130 = .ok (.getfield 51, 3) := by decide +kernel
theorem dX11_judge_133 : decode cX11_judge 133 = .ok (.aload_n 0, 1) := by decide +kernel
theorem dX11_judge_134 : decode cX11_judge 134 = .ok (.getfield 58, 3) := by decide +kernel
theorem dX11_judge_137 : decode cX11_judge 137 = .ok (.iload_n 3, 1) := by decide +kernel
theorem dX11_judge_138 : decode cX11_judge 138 = .ok (.invokevirtual 278, 3) := by decide +kernel
theorem dX11_judge_141 : decode cX11_judge 141 = .ok (.iload 6, 2) := by decide +kernel
theorem dX11_judge_143 : decode cX11_judge 143 = .ok (.ireturn, 1) := by decide +kernel
theorem dX11_judge_144 : decode cX11_judge 144 = .ok (.aload_n 0, 1) := by decide +kernel
theorem dX11_judge_145 : decode cX11_judge 145 = .ok (.getfield 51, 3) := by decide +kernel
theorem dX11_judge_148 : decode cX11_judge 148 = .ok (.aload_n 0, 1) := by decide +kernel
theorem dX11_judge_149 : decode cX11_judge 149 = .ok (.getfield 58, 3) := by decide +kernel
theorem dX11_judge_152 : decode cX11_judge 152 = .ok (.invokevirtual 282, 3) := by decide +kernel
theorem dX11_judge_155 : decode cX11_judge 155 = .ok (.ifCond .eq 8, 3) := by decide +kernel
theorem dX11_judge_158 : decode cX11_judge 158 = .ok (.iload 6, 2) := by decide +kernel
theorem dX11_judge_160 : decode cX11_judge 160 = .ok (.goto 12, 3) := by decide +kernel
theorem dX11_judge_163 : decode cX11_judge 163 = .ok (.iconst 0, 1) := by decide +kernel
theorem dX11_judge_164 : decode cX11_judge 164 = .ok (.iconst 4, 1) := by decide +kernel
theorem dX11_judge_165 : decode cX11_judge 165 = .ok (.iload 4, 2) := by decide +kernel
theorem dX11_judge_167 : decode cX11_judge 167 = .ok (.imul, 1) := by decide +kernel
theorem dX11_judge_168 : decode cX11_judge 168 = .ok (.iadd, 1) := by decide +kernel
theorem dX11_judge_169 : decode cX11_judge 169 = .ok (.bipush 16, 2) := by decide +kernel
theorem dX11_judge_171 : decode cX11_judge 171 = .ok (.iadd, 1) := by decide +kernel
theorem dX11_judge_172 : decode cX11_judge 172 = .ok (.ireturn, 1) := by decide +kernel
theorem e_X11_judge_75 {X : gk_X} {F : Nat} {l0 : Nat} {l3 : Int32} {s0 : Int32} {S : gk_S} {r : (Int32 × gk_S)} (h0 : f_X11_judge_75 F l0 l3 s0 S = some r) : EvW X m_X11_judge 6 0 0 75 [some (.ref l0), none, none, some (.int l3), none, none, none] [.int s0] S (qRI r) := by
  unfold f_X11_judge_75 at h0
  refine ev_istore (pc := 75) (L' := [some (.ref l0), none, none, some (.int l3), some (.int s0), none, none]) (i := 4) (by decide) rfl rfl dX11_judge_75 ?_
  refine ev_aload_n (pc := 77) (i := 0) rfl rfl rfl dX11_judge_77 ?_
  obtain ⟨g43, h44⟩ := qk_el h0; clear h0
  obtain ⟨b45, e46, h47⟩ := qP_el h44; clear h44
  refine xv_getP (pc := 78) fn_802 (isb_el g43) e46 gw_284 dX11_judge_78 ?_
  refine ev_iconst (pc := 81) (v := 0) (by decide) dX11_judge_81 ?_
  obtain ⟨g48, h49⟩ := qk_el h47; clear h47
  obtain ⟨g50, h51⟩ := qk_el h49; clear h49
  obtain ⟨b52, e53, h54⟩ := qP_el h51; clear h51
  refine yv_aald (pc := 82) (isb_el g48) (by decide) (inb_el g50) e53 dX11_judge_82 ?_
  refine ev_aload_n (pc := 83) (i := 0) rfl rfl rfl dX11_judge_83 ?_
  obtain ⟨b55, e56, h57⟩ := qP_el h54; clear h54
  refine xv_getP (pc := 84) fn_806 (isb_el g43) e56 gw_288 dX11_judge_84 ?_
  refine ev_iload (pc := 87) (i := 4) rfl dX11_judge_87 ?_
  obtain ⟨g58, h59⟩ := qk_el h57; clear h57
  obtain ⟨x60, S61, e62, h63⟩ := qc_el h59; clear h59
  refine xv_callV (pc := 89) (st := []) (as := [.ref b55, .int s0]) (v := (some (.int x60))) (S' := S61) ok_X6_tell (e_X6_tell e62) (isb_el g58) (by decide) rfl (Nat.le_of_ble_eq_true rfl) rfl gw_977 dX11_judge_89 ?_
  refine ev_istore (pc := 92) (L' := [some (.ref l0), none, none, some (.int l3), some (.int s0), some (.int x60), none]) (i := 5) (by decide) rfl rfl dX11_judge_92 ?_
  refine ev_iload (pc := 94) (i := 5) rfl dX11_judge_94 ?_
  refine ev_iconst (pc := 96) (v := 4) (by decide) dX11_judge_96 ?_
  refine ev_iload (pc := 97) (i := 4) rfl dX11_judge_97 ?_
  refine ev_imul (pc := 99)  dX11_judge_99 ?_
  refine ev_iadd (pc := 100)  dX11_judge_100 ?_
  refine ev_istore (pc := 101) (L' := [some (.ref l0), none, none, some (.int l3), some (.int s0), some (.int x60), some (.int (x60 + (4 * s0)))]) (i := 6) (by decide) rfl rfl dX11_judge_101 ?_
  refine ev_iload (pc := 103) (i := 5) rfl dX11_judge_103 ?_
  refine ev_iconst (pc := 105) (v := 1) (by decide) dX11_judge_105 ?_
  refine ev_ic_ne (pc := 106) (tgt := 121) (by decide) dX11_judge_106 (fun c64 => ?_) (fun c64 => ?_)
  · replace h63 := qi_f h63 c64
    refine ev_iload (pc := 121) (i := 6) rfl dX11_judge_121 ?_
    exact ev_ireturn (pc := 123) rfl (nar_int _) (qRI_eq h63) dX11_judge_123
  · replace h63 := qi_t h63 c64
    refine ev_iload (pc := 109) (i := 4) rfl dX11_judge_109 ?_
    refine ev_iconst (pc := 111) (v := 2) (by decide) dX11_judge_111 ?_
    refine ev_ic_eq (pc := 112) (tgt := 121) (by decide) dX11_judge_112 (fun c66 => ?_) (fun c66 => ?_)
    · replace h63 := qi_t h63 c66
      refine ev_iload (pc := 121) (i := 6) rfl dX11_judge_121 ?_
      exact ev_ireturn (pc := 123) rfl (nar_int _) (qRI_eq h63) dX11_judge_123
    · replace h63 := qi_f h63 c66
      refine ev_iload (pc := 115) (i := 4) rfl dX11_judge_115 ?_
      refine ev_iconst (pc := 117) (v := 3) (by decide) dX11_judge_117 ?_
      refine ev_ic_ne (pc := 118) (tgt := 124) (by decide) dX11_judge_118 (fun c68 => ?_) (fun c68 => ?_)
      · replace h63 := qi_f h63 c68
        refine ev_iload_n (pc := 124) (i := 3) rfl rfl dX11_judge_124 ?_
        refine ev_iconst (pc := 125) (v := -1) (by decide) dX11_judge_125 ?_
        refine ev_ic_eq (pc := 126) (tgt := 144) (by decide) dX11_judge_126 (fun c70 => ?_) (fun c70 => ?_)
        · replace h63 := qi_t h63 c70
          refine ev_aload_n (pc := 144) (i := 0) rfl rfl rfl dX11_judge_144 ?_
          obtain ⟨g72, h73⟩ := qk_el h63; clear h63
          obtain ⟨b74, e75, h76⟩ := qP_el h73; clear h73
          refine xv_getP (pc := 145) fn_805 (isb_el g72) e75 gw_287 dX11_judge_145 ?_
          refine ev_aload_n (pc := 148) (i := 0) rfl rfl rfl dX11_judge_148 ?_
          obtain ⟨b77, e78, h79⟩ := qP_el h76; clear h76
          refine xv_getP (pc := 149) fn_806 (isb_el g72) e78 gw_288 dX11_judge_149 ?_
          obtain ⟨g80, h81⟩ := qk_el h79; clear h79
          obtain ⟨x82, S83, e84, h85⟩ := qc_el h81; clear h81
          refine xv_callV (pc := 152) (st := []) (as := [.ref b77]) (v := (some (.int x82))) (S' := S83) ok_X8_begin (e_X8_begin e84) (isb_el g80) (by decide) rfl (Nat.le_of_ble_eq_true rfl) rfl gw_1000 dX11_judge_152 ?_
          refine ev_if_eq (pc := 155) (tgt := 163) (by decide) dX11_judge_155 (fun c86 => ?_) (fun c86 => ?_)
          · replace h85 := qi_t h85 c86
            refine ev_iconst (pc := 163) (v := 0) (by decide) dX11_judge_163 ?_
            refine ev_iconst (pc := 164) (v := 4) (by decide) dX11_judge_164 ?_
            refine ev_iload (pc := 165) (i := 4) rfl dX11_judge_165 ?_
            refine ev_imul (pc := 167)  dX11_judge_167 ?_
            refine ev_iadd (pc := 168)  dX11_judge_168 ?_
            refine ev_bipush (pc := 169) (v := 16) (by decide) dX11_judge_169 ?_
            refine ev_iadd (pc := 171)  dX11_judge_171 ?_
            exact ev_ireturn (pc := 172) rfl (nar_int _) (qRI_eq h85) dX11_judge_172
          · replace h85 := qi_f h85 c86
            refine ev_iload (pc := 158) (i := 6) rfl dX11_judge_158 ?_
            refine ev_goto (pc := 160) (tgt := 172) (by decide) dX11_judge_160 ?_
            exact ev_ireturn (pc := 172) rfl (nar_int _) (qRI_eq h85) dX11_judge_172
        · replace h63 := qi_f h63 c70
          refine ev_aload_n (pc := 129) (i := 0) rfl rfl rfl dX11_judge_129 ?_
          obtain ⟨g88, h89⟩ := qk_el h63; clear h63
          obtain ⟨b90, e91, h92⟩ := qP_el h89; clear h89
          refine xv_getP (pc := 130) fn_805 (isb_el g88) e91 gw_287 dX11_judge_130 ?_
          refine ev_aload_n (pc := 133) (i := 0) rfl rfl rfl dX11_judge_133 ?_
          obtain ⟨b93, e94, h95⟩ := qP_el h92; clear h92
          refine xv_getP (pc := 134) fn_806 (isb_el g88) e94 gw_288 dX11_judge_134 ?_
          refine ev_iload_n (pc := 137) (i := 3) rfl rfl dX11_judge_137 ?_
          obtain ⟨g96, h97⟩ := qk_el h95; clear h95
          obtain ⟨x98, S99, e100, h101⟩ := qc_el h97; clear h97
          refine xv_callV (pc := 138) (st := []) (as := [.ref b93, .int l3]) (v := none) (S' := S99) ok_X8_step (e_X8_step e100) (isb_el g96) (by decide) rfl (Nat.le_of_ble_eq_true rfl) rfl gw_982 dX11_judge_138 ?_
          refine ev_iload (pc := 141) (i := 6) rfl dX11_judge_141 ?_
          exact ev_ireturn (pc := 143) rfl (nar_int _) (qRI_eq h101) dX11_judge_143
      · replace h63 := qi_t h63 c68
        refine ev_iload (pc := 121) (i := 6) rfl dX11_judge_121 ?_
        exact ev_ireturn (pc := 123) rfl (nar_int _) (qRI_eq h63) dX11_judge_123
theorem e_X11_judge_54 {X : gk_X} {F : Nat} {l0 : Nat} {l2 : Int32} {s0 : Int32} {S : gk_S} {r : (Int32 × gk_S)} (h0 : f_X11_judge_54 F l0 l2 s0 S = some r) : EvW X m_X11_judge 6 0 0 54 [some (.ref l0), none, some (.int l2), none, none, none, none] [.int s0] S (qRI r) := by
  unfold f_X11_judge_54 at h0
  refine ev_istore_n (pc := 54) (L' := [some (.ref l0), none, some (.int l2), some (.int s0), none, none, none]) (i := 3) rfl (by decide) rfl rfl dX11_judge_54 ?_
  refine ev_iload_n (pc := 55) (i := 2) rfl rfl dX11_judge_55 ?_
  refine ev_if_eq (pc := 56) (tgt := 63) (by decide) dX11_judge_56 (fun c27 => ?_) (fun c27 => ?_)
  · replace h0 := qi_t h0 c27
    refine ev_aload_n (pc := 63) (i := 0) rfl rfl rfl dX11_judge_63 ?_
    obtain ⟨g29, h30⟩ := qk_el h0; clear h0
    obtain ⟨b31, e32, h33⟩ := qP_el h30; clear h30
    refine xv_getP (pc := 64) fn_805 (isb_el g29) e32 gw_287 dX11_judge_64 ?_
    refine ev_aload_n (pc := 67) (i := 0) rfl rfl rfl dX11_judge_67 ?_
    obtain ⟨b34, e35, h36⟩ := qP_el h33; clear h33
    refine xv_getP (pc := 68) fn_806 (isb_el g29) e35 gw_288 dX11_judge_68 ?_
    refine ev_iload_n (pc := 71) (i := 3) rfl rfl dX11_judge_71 ?_
    obtain ⟨g37, h38⟩ := qk_el h36; clear h36
    obtain ⟨x39, S40, e41, h42⟩ := qc_el h38; clear h38
    refine xv_callV (pc := 72) (st := []) (as := [.ref b34, .int s0]) (v := (some (.int x39))) (S' := S40) ok_X8_stateOf (e_X8_stateOf e41) (isb_el g37) (by decide) rfl (Nat.le_of_ble_eq_true rfl) rfl gw_956 dX11_judge_72 ?_
    exact ev_weak (qL_s (qL_n (qL_n (qL_s (qL_n (qL_n (qL_n qL_nil))))))) (e_X11_judge_75 h42)
  · replace h0 := qi_f h0 c27
    refine ev_iconst (pc := 59) (v := 2) (by decide) dX11_judge_59 ?_
    refine ev_goto (pc := 60) (tgt := 75) (by decide) dX11_judge_60 ?_
    exact ev_weak (qL_s (qL_n (qL_n (qL_s (qL_n (qL_n (qL_n qL_nil))))))) (e_X11_judge_75 h0)
theorem e_X11_judge_34 {X : gk_X} {F : Nat} {l0 : Nat} {s0 : Int32} {S : gk_S} {r : (Int32 × gk_S)} (h0 : f_X11_judge_34 F l0 s0 S = some r) : EvW X m_X11_judge 6 0 0 34 [some (.ref l0), none, none, none, none, none, none] [.int s0] S (qRI r) := by
  unfold f_X11_judge_34 at h0
  refine ev_istore_n (pc := 34) (L' := [some (.ref l0), none, some (.int s0), none, none, none, none]) (i := 2) rfl (by decide) rfl rfl dX11_judge_34 ?_
  refine ev_iload_n (pc := 35) (i := 2) rfl rfl dX11_judge_35 ?_
  refine ev_if_eq (pc := 36) (tgt := 43) (by decide) dX11_judge_36 (fun c11 => ?_) (fun c11 => ?_)
  · replace h0 := qi_t h0 c11
    refine ev_aload_n (pc := 43) (i := 0) rfl rfl rfl dX11_judge_43 ?_
    obtain ⟨g13, h14⟩ := qk_el h0; clear h0
    obtain ⟨b15, e16, h17⟩ := qP_el h14; clear h14
    refine xv_getP (pc := 44) fn_805 (isb_el g13) e16 gw_287 dX11_judge_44 ?_
    refine ev_aload_n (pc := 47) (i := 0) rfl rfl rfl dX11_judge_47 ?_
    obtain ⟨b18, e19, h20⟩ := qP_el h17; clear h17
    refine xv_getP (pc := 48) fn_806 (isb_el g13) e19 gw_288 dX11_judge_48 ?_
    obtain ⟨g21, h22⟩ := qk_el h20; clear h20
    obtain ⟨x23, S24, e25, h26⟩ := qc_el h22; clear h22
    refine xv_callV (pc := 51) (st := []) (as := [.ref b18]) (v := (some (.int x23))) (S' := S24) ok_X8_placeOf (e_X8_placeOf e25) (isb_el g21) (by decide) rfl (Nat.le_of_ble_eq_true rfl) rfl gw_940 dX11_judge_51 ?_
    exact ev_weak (qL_s (qL_n (qL_s (qL_n (qL_n (qL_n (qL_n qL_nil))))))) (e_X11_judge_54 h26)
  · replace h0 := qi_f h0 c11
    refine ev_iconst (pc := 39) (v := -1) (by decide) dX11_judge_39 ?_
    refine ev_goto (pc := 40) (tgt := 54) (by decide) dX11_judge_40 ?_
    exact ev_weak (qL_s (qL_n (qL_s (qL_n (qL_n (qL_n (qL_n qL_nil))))))) (e_X11_judge_54 h0)
theorem e_X11_judge {X : gk_X} {F : Nat} {S : gk_S} {a : Nat} {p0 : Int32} {r : (Int32 × gk_S)} (h0 : f_X11_judge F S a p0 = some r) : EvM X m_X11_judge 6 0 0 [.ref a, .int p0] S (qRI r) := by
  unfold f_X11_judge at h0
  refine ev_method (by decide +kernel) rfl rfl (Nat.le_of_ble_eq_true rfl) ?_
  show EvW X m_X11_judge 6 0 0 0 [some (.ref a), some (.int p0), none, none, none, none, none] [] S _
  refine ev_aload_n (pc := 0) (i := 0) rfl rfl rfl dX11_judge_0 ?_
  refine ev_dup (pc := 1) (.inr rfl) dX11_judge_1 ?_
  obtain ⟨g1, h2⟩ := qk_el h0; clear h0
  obtain ⟨x3, e4, h5⟩ := qv_el h2; clear h2
  refine xv_getIv (pc := 2) fn_813 (isb_el g1) e4 gw_295 dX11_judge_2 ?_
  refine ev_iconst (pc := 5) (v := 1) (by decide) dX11_judge_5 ?_
  refine ev_iadd (pc := 6)  dX11_judge_6 ?_
  obtain ⟨S6, e7, h8⟩ := qv_el h5; clear h5
  refine yv_putI (pc := 7) fn_813 ⟨rfl, rfl⟩ (isb_el g1) e7 gw_295 dX11_judge_7 ?_
  refine ev_iload_n (pc := 10) (i := 1) rfl rfl dX11_judge_10 ?_
  refine ev_if_eq (pc := 11) (tgt := 33) (by decide) dX11_judge_11 (fun c9 => ?_) (fun c9 => ?_)
  · replace h8 := qi_t h8 c9
    refine ev_iconst (pc := 33) (v := 0) (by decide) dX11_judge_33 ?_
    exact ev_weak (qL_s (qL_n (qL_n (qL_n (qL_n (qL_n (qL_n qL_nil))))))) (e_X11_judge_34 h8)
  · replace h8 := qi_f h8 c9
    refine ev_aload_n (pc := 14) (i := 0) rfl rfl rfl dX11_judge_14 ?_
    obtain ⟨b102, e103, h104⟩ := qP_el h8; clear h8
    refine xv_getP (pc := 15) fn_805 (is_sI (isb_el g1) e7) e103 gw_287 dX11_judge_15 ?_
    refine ev_aload_n (pc := 18) (i := 0) rfl rfl rfl dX11_judge_18 ?_
    obtain ⟨b105, e106, h107⟩ := qP_el h104; clear h104
    refine xv_getP (pc := 19) fn_807 (is_sI (isb_el g1) e7) e106 gw_289 dX11_judge_19 ?_
    obtain ⟨g108, h109⟩ := qk_el h107; clear h107
    obtain ⟨x110, S111, e112, h113⟩ := qc_el h109; clear h109
    refine xv_callV (pc := 22) (st := []) (as := [.ref b105]) (v := (some (.int x110))) (S' := S111) ok_X8_placeOf (e_X8_placeOf e112) (isb_el g108) (by decide) rfl (Nat.le_of_ble_eq_true rfl) rfl gw_940 dX11_judge_22 ?_
    refine ev_iconst (pc := 25) (v := -1) (by decide) dX11_judge_25 ?_
    refine ev_ic_eq (pc := 26) (tgt := 33) (by decide) dX11_judge_26 (fun c114 => ?_) (fun c114 => ?_)
    · replace h113 := qi_t h113 c114
      refine ev_iconst (pc := 33) (v := 0) (by decide) dX11_judge_33 ?_
      exact ev_weak (qL_s (qL_n (qL_n (qL_n (qL_n (qL_n (qL_n qL_nil))))))) (e_X11_judge_34 h113)
    · replace h113 := qi_f h113 c114
      refine ev_iconst (pc := 29) (v := 1) (by decide) dX11_judge_29 ?_
      refine ev_goto (pc := 30) (tgt := 34) (by decide) dX11_judge_30 ?_
      exact ev_weak (qL_s (qL_n (qL_n (qL_n (qL_n (qL_n (qL_n qL_nil))))))) (e_X11_judge_34 h113)
theorem dX11_datagram_0 : decode cX11_datagram 0 = .ok (.iload_n 1, 1) := by decide +kernel
theorem dX11_datagram_1 : decode cX11_datagram 1 = .ok (.ifCond .lt 14, 3) := by decide +kernel
theorem dX11_datagram_4 : decode cX11_datagram 4 = .ok (.iload_n 1, 1) := by decide +kernel
theorem dX11_datagram_5 : decode cX11_datagram 5 = .ok (.i2l, 1) := by decide +kernel
theorem dX11_datagram_6 : decode cX11_datagram 6 = .ok (.getstatic 192, 3) := by decide +kernel
theorem dX11_datagram_9 : decode cX11_datagram 9 = .ok (.iconst 0, 1) := by decide +kernel
theorem dX11_datagram_10 : decode cX11_datagram 10 = .ok (.laload, 1) := by decide +kernel
theorem dX11_datagram_11 : decode cX11_datagram 11 = .ok (.lcmp, 1) := by decide +kernel
theorem dX11_datagram_12 : decode cX11_datagram 12 = .ok (.ifCond .le 13, 3) := by decide +kernel
theorem dX11_datagram_15 : decode cX11_datagram 15 = .ok (.new 143, 3) := by decide +kernel
theorem dX11_datagram_18 : decode cX11_datagram 18 = .ok (.dup, 1) := by decide +kernel
theorem dX11_datagram_19 : decode cX11_datagram 19 = .ok (.ldc 195, 2) := by decide +kernel
theorem dX11_datagram_21 : decode cX11_datagram 21 = .ok (.invokespecial 147, 3) := by decide +kernel
theorem dX11_datagram_24 : decode cX11_datagram 24 = .ok (.athrow, 1) := by decide +kernel
theorem dX11_datagram_25 : decode cX11_datagram 25 = .ok (.aload_n 0, 1) := by decide +kernel
theorem dX11_datagram_26 : decode cX11_datagram 26 = .ok (.aload_n 0, 1) := by decide +kernel
theorem dX11_datagram_27 : decode cX11_datagram 27 = .ok (.getfield 14, 3) := by decide +kernel
theorem dX11_datagram_30 : decode cX11_datagram 30 = .ok (.invokestatic 197, 3) := by decide +kernel
theorem dX11_datagram_33 : decode cX11_datagram 33 = .ok (.putfield 76, 3) := by decide +kernel
theorem dX11_datagram_36 : decode cX11_datagram 36 = .ok (.aload_n 0, 1) := by decide +kernel
theorem dX11_datagram_37 : decode cX11_datagram 37 = .ok (.getfield 76, 3) := by decide +kernel
theorem dX11_datagram_40 : decode cX11_datagram 40 = .ok (.ifCond .eq 27, 3) := by decide +kernel
theorem dX11_datagram_43 : decode cX11_datagram 43 = .ok (.aload_n 0, 1) := by decide +kernel
theorem dX11_datagram_44 : decode cX11_datagram 44 = .ok (.getfield 76, 3) := by decide +kernel
theorem dX11_datagram_47 : decode cX11_datagram 47 = .ok (.aload_n 0, 1) := by decide +kernel
theorem dX11_datagram_48 : decode cX11_datagram 48 = .ok (.getfield 14, 3) := by decide +kernel
theorem dX11_datagram_51 : decode cX11_datagram 51 = .ok (.invokestatic 203, 3) := by decide +kernel
theorem dX11_datagram_54 : decode cX11_datagram 54 = .ok (.istore_n 2, 1) := by decide +kernel
theorem dX11_datagram_55 : decode cX11_datagram 55 = .ok (.aload_n 0, 1) := by decide +kernel
theorem dX11_datagram_56 : decode cX11_datagram 56 = .ok (.getfield 14, 3) := by decide +kernel
theorem dX11_datagram_59 : decode cX11_datagram 59 = .ok (.iconst 0, 1) := by decide +kernel
theorem dX11_datagram_60 : decode cX11_datagram 60 = .ok (.putfield 83, 3) := by decide +kernel
theorem dX11_datagram_63 : decode cX11_datagram 63 = .ok (.iconst (-1), 1) := by decide +kernel
theorem dX11_datagram_64 : decode cX11_datagram 64 = .ok (.iload_n 2, 1) := by decide +kernel
theorem dX11_datagram_65 : decode cX11_datagram 65 = .ok (.isub, 1) := by decide +kernel
theorem dX11_datagram_66 : decode cX11_datagram 66 = .ok (.ireturn, 1) := by decide +kernel
theorem dX11_datagram_67 : decode cX11_datagram 67 = .ok (.aload_n 0, 1) := by decide +kernel
theorem dX11_datagram_68 : decode cX11_datagram 68 = .ok (.getfield 14, 3) := by decide +kernel
theorem dX11_datagram_71 : decode cX11_datagram 71 = .ok (.iconst 0, 1) := by decide +kernel
theorem dX11_datagram_72 : decode cX11_datagram 72 = .ok (.aload_n 0, 1) := by decide +kernel
theorem dX11_datagram_73 : decode cX11_datagram 73 = .ok (.getfield 58, 3) := by decide +kernel
theorem dX11_datagram_76 : decode cX11_datagram 76 = .ok (.invokestatic 207, 3) := by decide +kernel
theorem dX11_datagram_79 : decode cX11_datagram 79 = .ok (.aload_n 0, 1) := by decide +kernel
theorem dX11_datagram_80 : decode cX11_datagram 80 = .ok (.getfield 58, 3) := by decide +kernel
theorem dX11_datagram_83 : decode cX11_datagram 83 = .ok (.getfield 211, 3) := by decide +kernel
theorem dX11_datagram_86 : decode cX11_datagram 86 = .ok (.iconst 0, 1) := by decide +kernel
theorem dX11_datagram_87 : decode cX11_datagram 87 = .ok (.iload_n 1, 1) := by decide +kernel
theorem dX11_datagram_88 : decode cX11_datagram 88 = .ok (.i2l, 1) := by decide +kernel
theorem dX11_datagram_89 : decode cX11_datagram 89 = .ok (.lastore, 1) := by decide +kernel
theorem dX11_datagram_90 : decode cX11_datagram 90 = .ok (.aload_n 0, 1) := by decide +kernel
theorem dX11_datagram_91 : decode cX11_datagram 91 = .ok (.getfield 58, 3) := by decide +kernel
theorem dX11_datagram_94 : decode cX11_datagram 94 = .ok (.aload_n 0, 1) := by decide +kernel
theorem dX11_datagram_95 : decode cX11_datagram 95 = .ok (.getfield 14, 3) := by decide +kernel
theorem dX11_datagram_98 : decode cX11_datagram 98 = .ok (.invokestatic 214, 3) := by decide +kernel
theorem dX11_datagram_101 : decode cX11_datagram 101 = .ok (.putfield 185, 3) := by decide +kernel
theorem dX11_datagram_104 : decode cX11_datagram 104 = .ok (.aload_n 0, 1) := by decide +kernel
theorem dX11_datagram_105 : decode cX11_datagram 105 = .ok (.getfield 14, 3) := by decide +kernel
theorem dX11_datagram_108 : decode cX11_datagram 108 = .ok (.aload_n 0, 1) := by decide +kernel
theorem dX11_datagram_109 : decode cX11_datagram 109 = .ok (.getfield 62, 3) := by decide +kernel
theorem dX11_datagram_112 : decode cX11_datagram 112 = .ok (.invokestatic 217, 3) := by decide +kernel
theorem dX11_datagram_115 : decode cX11_datagram 115 = .ok (.istore_n 2, 1) := by decide +kernel
theorem dX11_datagram_116 : decode cX11_datagram 116 = .ok (.aload_n 0, 1) := by decide +kernel
theorem dX11_datagram_117 : decode cX11_datagram 117 = .ok (.getfield 14, 3) := by decide +kernel
theorem dX11_datagram_120 : decode cX11_datagram 120 = .ok (.iconst 0, 1) := by decide +kernel
theorem dX11_datagram_121 : decode cX11_datagram 121 = .ok (.putfield 83, 3) := by decide +kernel
theorem dX11_datagram_124 : decode cX11_datagram 124 = .ok (.aload_n 0, 1) := by decide +kernel
theorem dX11_datagram_125 : decode cX11_datagram 125 = .ok (.iload_n 2, 1) := by decide +kernel
theorem dX11_datagram_126 : decode cX11_datagram 126 = .ok (.invokevirtual 188, 3) := by decide +kernel
theorem dX11_datagram_129 : decode cX11_datagram 129 = .ok (.ireturn, 1) := by decide +kernel
theorem e_X11_datagram_15 {X : gk_X} {F : Nat} {k j : Nat}  {S : gk_S} {r : ((Int32 ⊕ String) × gk_S)} (hb : qb r k j) (h0 : f_X11_datagram_15 F  S = some r) : EvW X m_X11_datagram 7 k j 15 [none, none, none] [] S (qXI r) := by
  unfold f_X11_datagram_15 at h0
  cases h0
  exact ev_throwS (pc := 15) (i := 29) (by decide) rfl rfl rfl rfl gx_okA (by decide +kernel) gw_777 gw_21 rfl (by decide) (by decide) (qb_inr hb).1 (qb_inr hb).2 rfl dX11_datagram_15 dX11_datagram_18 dX11_datagram_19 dX11_datagram_21 dX11_datagram_24
theorem e_X11_datagram {X : gk_X} {F : Nat} {k j : Nat} {S : gk_S} {a : Nat} {p0 : Int32} {r : ((Int32 ⊕ String) × gk_S)} (hb : qb r k j) (h0 : f_X11_datagram F S a p0 = some r) : EvM X m_X11_datagram 7 k j [.ref a, .int p0] S (qXI r) := by
  unfold f_X11_datagram at h0
  refine ev_method (by decide +kernel) rfl rfl (Nat.le_of_ble_eq_true rfl) ?_
  show EvW X m_X11_datagram 7 k j 0 [some (.ref a), some (.int p0), none] [] S _
  refine ev_iload_n (pc := 0) (i := 1) rfl rfl dX11_datagram_0 ?_
  refine ev_if_lt (pc := 1) (tgt := 15) (by decide) dX11_datagram_1 (fun c1 => ?_) (fun c1 => ?_)
  · replace h0 := qi_t h0 c1
    exact ev_weak (qL_n (qL_n (qL_n qL_nil))) (e_X11_datagram_15 hb h0)
  · replace h0 := qi_f h0 c1
    refine ev_iload_n (pc := 4) (i := 1) rfl rfl dX11_datagram_4 ?_
    refine ev_i2l (pc := 5)  dX11_datagram_5 ?_
    refine ev_getsT (pc := 6) gw_776 dX11_datagram_6 ?_
    refine ev_iconst (pc := 9) (v := 0) (by decide) dX11_datagram_9 ?_
    refine ev_caldT (pc := 10) (inb_el rfl) dX11_datagram_10 ?_
    refine ev_lcmp (pc := 11)  dX11_datagram_11 ?_
    refine ev_if_le (pc := 12) (tgt := 25) (by decide) dX11_datagram_12 (fun c3 => ?_) (fun c3 => ?_)
    · replace h0 := qi_t h0 (lc_le c3)
      refine ev_aload_n (pc := 25) (i := 0) rfl rfl rfl dX11_datagram_25 ?_
      refine ev_aload_n (pc := 26) (i := 0) rfl rfl rfl dX11_datagram_26 ?_
      obtain ⟨g5, h6⟩ := qk_el h0; clear h0
      obtain ⟨b7, e8, h9⟩ := qP_el h6; clear h6
      refine xv_getP (pc := 27) fn_800 (isb_el g5) e8 gw_282 dX11_datagram_27 ?_
      obtain ⟨x10, S11, e12, h13⟩ := qc_el h9; clear h9
      refine xv_callS (pc := 30) (st := [.ref a]) (as := [.ref b7]) (v := (some (.int x10))) (S' := S11) ok_X10_faultOf (e_X10_faultOf e12) (by decide) rfl (Nat.le_of_ble_eq_true rfl) rfl gw_1020 dX11_datagram_30 ?_
      obtain ⟨g14, h15⟩ := qk_el h13; clear h13
      obtain ⟨S16, e17, h18⟩ := qv_el h15; clear h15
      refine yv_putI (pc := 33) fn_812 ⟨rfl, rfl⟩ (isb_el g14) e17 gw_294 dX11_datagram_33 ?_
      refine ev_aload_n (pc := 36) (i := 0) rfl rfl rfl dX11_datagram_36 ?_
      obtain ⟨x19, e20, h21⟩ := qv_el h18; clear h18
      refine xv_getIv (pc := 37) fn_812 (is_sI (isb_el g14) e17) e20 gw_294 dX11_datagram_37 ?_
      refine ev_if_eq (pc := 40) (tgt := 67) (by decide) dX11_datagram_40 (fun c22 => ?_) (fun c22 => ?_)
      · replace h21 := qi_t h21 c22
        refine ev_aload_n (pc := 67) (i := 0) rfl rfl rfl dX11_datagram_67 ?_
        obtain ⟨b24, e25, h26⟩ := qP_el h21; clear h21
        refine xv_getP (pc := 68) fn_800 (is_sI (isb_el g14) e17) e25 gw_282 dX11_datagram_68 ?_
        refine ev_iconst (pc := 71) (v := 0) (by decide) dX11_datagram_71 ?_
        refine ev_aload_n (pc := 72) (i := 0) rfl rfl rfl dX11_datagram_72 ?_
        obtain ⟨b27, e28, h29⟩ := qP_el h26; clear h26
        refine xv_getP (pc := 73) fn_806 (is_sI (isb_el g14) e17) e28 gw_288 dX11_datagram_73 ?_
        obtain ⟨x30, S31, e32, h33⟩ := qc_el h29; clear h29
        refine xv_callS (pc := 76) (st := []) (as := [.ref b24, .int 0, .ref b27]) (v := none) (S' := S31) ok_X10_readPacket (e_X10_readPacket e32) (by decide) rfl (Nat.le_of_ble_eq_true rfl) rfl gw_1057 dX11_datagram_76 ?_
        refine ev_aload_n (pc := 79) (i := 0) rfl rfl rfl dX11_datagram_79 ?_
        obtain ⟨g34, h35⟩ := qk_el h33; clear h33
        obtain ⟨b36, e37, h38⟩ := qP_el h35; clear h35
        refine xv_getP (pc := 80) fn_806 (isb_el g34) e37 gw_288 dX11_datagram_80 ?_
        obtain ⟨g39, h40⟩ := qk_el h38; clear h38
        obtain ⟨b41, e42, h43⟩ := qP_el h40; clear h40
        refine xv_getP (pc := 83) fn_200 (isb_el g39) e42 gw_271 dX11_datagram_83 ?_
        refine ev_iconst (pc := 86) (v := 0) (by decide) dX11_datagram_86 ?_
        refine ev_iload_n (pc := 87) (i := 1) rfl rfl dX11_datagram_87 ?_
        refine ev_i2l (pc := 88)  dX11_datagram_88 ?_
        obtain ⟨g44, h45⟩ := qk_el h43; clear h43
        obtain ⟨g46, h47⟩ := qk_el h45; clear h45
        obtain ⟨S48, e49, h50⟩ := qv_el h47; clear h47
        refine yv_last (pc := 89) (isb_el g44) (inb_el g46) e49 dX11_datagram_89 ?_
        refine ev_aload_n (pc := 90) (i := 0) rfl rfl rfl dX11_datagram_90 ?_
        obtain ⟨b51, e52, h53⟩ := qP_el h50; clear h50
        refine xv_getP (pc := 91) fn_806 (is_wJ (isb_el g34) e49) e52 gw_288 dX11_datagram_91 ?_
        refine ev_aload_n (pc := 94) (i := 0) rfl rfl rfl dX11_datagram_94 ?_
        obtain ⟨b54, e55, h56⟩ := qP_el h53; clear h53
        refine xv_getP (pc := 95) fn_800 (is_wJ (isb_el g34) e49) e55 gw_282 dX11_datagram_95 ?_
        obtain ⟨x57, S58, e59, h60⟩ := qc_el h56; clear h56
        refine xv_callS (pc := 98) (st := [.ref b51]) (as := [.ref b54]) (v := (some (.int x57))) (S' := S58) ok_X10_flagsOf (e_X10_flagsOf e59) (by decide) rfl (Nat.le_of_ble_eq_true rfl) rfl gw_1071 dX11_datagram_98 ?_
        obtain ⟨g61, h62⟩ := qk_el h60; clear h60
        obtain ⟨S63, e64, h65⟩ := qv_el h62; clear h62
        refine yv_putI (pc := 101) fn_201 ⟨rfl, rfl⟩ (isb_el g61) e64 gw_276 dX11_datagram_101 ?_
        refine ev_aload_n (pc := 104) (i := 0) rfl rfl rfl dX11_datagram_104 ?_
        obtain ⟨g66, h67⟩ := qk_el h65; clear h65
        obtain ⟨b68, e69, h70⟩ := qP_el h67; clear h67
        refine xv_getP (pc := 105) fn_800 (isb_el g66) e69 gw_282 dX11_datagram_105 ?_
        refine ev_aload_n (pc := 108) (i := 0) rfl rfl rfl dX11_datagram_108 ?_
        obtain ⟨b71, e72, h73⟩ := qP_el h70; clear h70
        refine xv_getP (pc := 109) fn_807 (isb_el g66) e72 gw_289 dX11_datagram_109 ?_
        obtain ⟨x74, S75, e76, h77⟩ := qc_el h73; clear h73
        refine xv_callS (pc := 112) (st := []) (as := [.ref b68, .ref b71]) (v := (some (.int x74))) (S' := S75) ok_X10_tellsOf (e_X10_tellsOf e76) (by decide) rfl (Nat.le_of_ble_eq_true rfl) rfl gw_1074 dX11_datagram_112 ?_
        refine ev_istore_n (pc := 115) (L' := [some (.ref a), some (.int p0), some (.int x74)]) (i := 2) rfl (by decide) rfl rfl dX11_datagram_115 ?_
        refine ev_aload_n (pc := 116) (i := 0) rfl rfl rfl dX11_datagram_116 ?_
        obtain ⟨g78, h79⟩ := qk_el h77; clear h77
        obtain ⟨b80, e81, h82⟩ := qP_el h79; clear h79
        refine xv_getP (pc := 117) fn_800 (isb_el g78) e81 gw_282 dX11_datagram_117 ?_
        refine ev_iconst (pc := 120) (v := 0) (by decide) dX11_datagram_120 ?_
        obtain ⟨g83, h84⟩ := qk_el h82; clear h82
        obtain ⟨S85, e86, h87⟩ := qv_el h84; clear h84
        refine yv_putI (pc := 121) fn_101 ⟨rfl, rfl⟩ (isb_el g83) e86 gw_42 dX11_datagram_121 ?_
        refine ev_aload_n (pc := 124) (i := 0) rfl rfl rfl dX11_datagram_124 ?_
        refine ev_iload_n (pc := 125) (i := 2) rfl rfl dX11_datagram_125 ?_
        obtain ⟨x88, S89, e90, h91⟩ := qc_el h87; clear h87
        refine xv_callV (pc := 126) (st := []) (as := [.int x74]) (v := (some (.int x88))) (S' := S89) ok_X11_judge (e_X11_judge e90) (is_sI (isb_el g78) e86) (by decide) rfl (Nat.le_of_ble_eq_true rfl) rfl gw_936 dX11_datagram_126 ?_
        cases h91
        exact ev_ireturn (pc := 129) rfl (nar_int _) rfl dX11_datagram_129
      · replace h21 := qi_f h21 c22
        refine ev_aload_n (pc := 43) (i := 0) rfl rfl rfl dX11_datagram_43 ?_
        obtain ⟨x92, e93, h94⟩ := qv_el h21; clear h21
        refine xv_getIv (pc := 44) fn_812 (is_sI (isb_el g14) e17) e93 gw_294 dX11_datagram_44 ?_
        refine ev_aload_n (pc := 47) (i := 0) rfl rfl rfl dX11_datagram_47 ?_
        obtain ⟨b95, e96, h97⟩ := qP_el h94; clear h94
        refine xv_getP (pc := 48) fn_800 (is_sI (isb_el g14) e17) e96 gw_282 dX11_datagram_48 ?_
        obtain ⟨x98, S99, e100, h101⟩ := qc_el h97; clear h97
        refine xv_callS (pc := 51) (st := []) (as := [.int x92, .ref b95]) (v := (some (.int x98))) (S' := S99) ok_X10_placeOf (e_X10_placeOf e100) (by decide) rfl (Nat.le_of_ble_eq_true rfl) rfl gw_1051 dX11_datagram_51 ?_
        refine ev_istore_n (pc := 54) (L' := [some (.ref a), some (.int p0), some (.int x98)]) (i := 2) rfl (by decide) rfl rfl dX11_datagram_54 ?_
        refine ev_aload_n (pc := 55) (i := 0) rfl rfl rfl dX11_datagram_55 ?_
        obtain ⟨g102, h103⟩ := qk_el h101; clear h101
        obtain ⟨b104, e105, h106⟩ := qP_el h103; clear h103
        refine xv_getP (pc := 56) fn_800 (isb_el g102) e105 gw_282 dX11_datagram_56 ?_
        refine ev_iconst (pc := 59) (v := 0) (by decide) dX11_datagram_59 ?_
        obtain ⟨g107, h108⟩ := qk_el h106; clear h106
        obtain ⟨S109, e110, h111⟩ := qv_el h108; clear h108
        refine yv_putI (pc := 60) fn_101 ⟨rfl, rfl⟩ (isb_el g107) e110 gw_42 dX11_datagram_60 ?_
        refine ev_iconst (pc := 63) (v := -1) (by decide) dX11_datagram_63 ?_
        refine ev_iload_n (pc := 64) (i := 2) rfl rfl dX11_datagram_64 ?_
        refine ev_isub (pc := 65)  dX11_datagram_65 ?_
        cases h111
        exact ev_ireturn (pc := 66) rfl (nar_int _) rfl dX11_datagram_66
    · replace h0 := qi_f h0 (lc_leN c3)
      exact ev_weak (qL_n (qL_n (qL_n qL_nil))) (e_X11_datagram_15 hb h0)
