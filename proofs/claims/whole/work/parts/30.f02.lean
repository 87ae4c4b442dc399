theorem dX7_descend_0 : decode cX7_descend 0 = .ok (.iload_n 1, 1) := by decide +kernel
theorem dX7_descend_1 : decode cX7_descend 1 = .ok (.ifCond .lt 9, 3) := by decide +kernel
theorem dX7_descend_4 : decode cX7_descend 4 = .ok (.iload_n 1, 1) := by decide +kernel
theorem dX7_descend_5 : decode cX7_descend 5 = .ok (.bipush 7, 2) := by decide +kernel
theorem dX7_descend_7 : decode cX7_descend 7 = .ok (.if_icmp .le 5, 3) := by decide +kernel
theorem dX7_descend_10 : decode cX7_descend 10 = .ok (.iconst 0, 1) := by decide +kernel
theorem dX7_descend_11 : decode cX7_descend 11 = .ok (.ireturn, 1) := by decide +kernel
theorem dX7_descend_12 : decode cX7_descend 12 = .ok (.aload_n 0, 1) := by decide +kernel
theorem dX7_descend_13 : decode cX7_descend 13 = .ok (.iload_n 1, 1) := by decide +kernel
theorem dX7_descend_14 : decode cX7_descend 14 = .ok (.iload_n 2, 1) := by decide +kernel
theorem dX7_descend_15 : decode cX7_descend 15 = .ok (.iconst 0, 1) := by decide +kernel
theorem dX7_descend_16 : decode cX7_descend 16 = .ok (.invokevirtual 122, 3) := by decide +kernel
theorem dX7_descend_19 : decode cX7_descend 19 = .ok (.istore 4, 2) := by decide +kernel
theorem dX7_descend_21 : decode cX7_descend 21 = .ok (.aload_n 0, 1) := by decide +kernel
theorem dX7_descend_22 : decode cX7_descend 22 = .ok (.iload_n 1, 1) := by decide +kernel
theorem dX7_descend_23 : decode cX7_descend 23 = .ok (.iload_n 3, 1) := by decide +kernel
theorem dX7_descend_24 : decode cX7_descend 24 = .ok (.bipush 16, 2) := by decide +kernel
theorem dX7_descend_26 : decode cX7_descend 26 = .ok (.invokevirtual 122, 3) := by decide +kernel
theorem dX7_descend_29 : decode cX7_descend 29 = .ok (.istore 5, 2) := by decide +kernel
theorem dX7_descend_31 : decode cX7_descend 31 = .ok (.iload 4, 2) := by decide +kernel
theorem dX7_descend_33 : decode cX7_descend 33 = .ok (.iload 5, 2) := by decide +kernel
theorem dX7_descend_35 : decode cX7_descend 35 = .ok (.if_icmp .ne 20, 3) := by decide +kernel
theorem dX7_descend_38 : decode cX7_descend 38 = .ok (.iload 4, 2) := by decide +kernel
theorem dX7_descend_40 : decode cX7_descend 40 = .ok (.ldc 126, 2) := by decide +kernel
theorem dX7_descend_42 : decode cX7_descend 42 = .ok (.iand, 1) := by decide +kernel
theorem dX7_descend_43 : decode cX7_descend 43 = .ok (.aload_n 0, 1) := by decide +kernel
theorem dX7_descend_44 : decode cX7_descend 44 = .ok (.getfield 35, 3) := by decide +kernel
theorem dX7_descend_47 : decode cX7_descend 47 = .ok (.iconst (-1), 1) := by decide +kernel
theorem dX7_descend_48 : decode cX7_descend 48 = .ok (.ixor, 1) := by decide +kernel
theorem dX7_descend_49 : decode cX7_descend 49 = .ok (.iand, 1) := by decide +kernel
theorem dX7_descend_50 : decode cX7_descend 50 = .ok (.ifCond .ne 5, 3) := by decide +kernel
theorem dX7_descend_53 : decode cX7_descend 53 = .ok (.iconst 0, 1) := by decide +kernel
theorem dX7_descend_54 : decode cX7_descend 54 = .ok (.ireturn, 1) := by decide +kernel
theorem dX7_descend_55 : decode cX7_descend 55 = .ok (.iload 4, 2) := by decide +kernel
theorem dX7_descend_57 : decode cX7_descend 57 = .ok (.ldc 126, 2) := by decide +kernel
theorem dX7_descend_59 : decode cX7_descend 59 = .ok (.iand, 1) := by decide +kernel
theorem dX7_descend_60 : decode cX7_descend 60 = .ok (.ifCond .ne 37, 3) := by decide +kernel
theorem dX7_descend_63 : decode cX7_descend 63 = .ok (.iload 5, 2) := by decide +kernel
theorem dX7_descend_65 : decode cX7_descend 65 = .ok (.ldc 126, 2) := by decide +kernel
theorem dX7_descend_67 : decode cX7_descend 67 = .ok (.iand, 1) := by decide +kernel
theorem dX7_descend_68 : decode cX7_descend 68 = .ok (.ifCond .ne 29, 3) := by decide +kernel
theorem dX7_descend_71 : decode cX7_descend 71 = .ok (.iload_n 1, 1) := by decide +kernel
theorem dX7_descend_72 : decode cX7_descend 72 = .ok (.istore 6, 2) := by decide +kernel
theorem dX7_descend_74 : decode cX7_descend 74 = .ok (.iload 6, 2) := by decide +kernel
theorem dX7_descend_76 : decode cX7_descend 76 = .ok (.bipush 7, 2) := by decide +kernel
theorem dX7_descend_78 : decode cX7_descend 78 = .ok (.if_icmp .ge 17, 3) := by decide +kernel
theorem dX7_descend_81 : decode cX7_descend 81 = .ok (.aload_n 0, 1) := by decide +kernel
theorem dX7_descend_82 : decode cX7_descend 82 = .ok (.getfield 11, 3) := by decide +kernel
theorem dX7_descend_85 : decode cX7_descend 85 = .ok (.iload 6, 2) := by decide +kernel
theorem dX7_descend_87 : decode cX7_descend 87 = .ok (.lconst 0, 1) := by decide +kernel
theorem dX7_descend_88 : decode cX7_descend 88 = .ok (.lastore, 1) := by decide +kernel
theorem dX7_descend_89 : decode cX7_descend 89 = .ok (.iinc 6 1, 3) := by decide +kernel
theorem dX7_descend_92 : decode cX7_descend 92 = .ok (.goto (-18), 3) := by decide +kernel
theorem dX7_descend_95 : decode cX7_descend 95 = .ok (.iconst 1, 1) := by decide +kernel
theorem dX7_descend_96 : decode cX7_descend 96 = .ok (.ireturn, 1) := by decide +kernel
theorem dX7_descend_97 : decode cX7_descend 97 = .ok (.iload_n 1, 1) := by decide +kernel
theorem dX7_descend_98 : decode cX7_descend 98 = .ok (.bipush 7, 2) := by decide +kernel
theorem dX7_descend_100 : decode cX7_descend 100 = .ok (.if_icmp .ne 5, 3) := by decide +kernel
theorem dX7_descend_103 : decode cX7_descend 103 = .ok (.iconst 0, 1) := by decide +kernel
theorem dX7_descend_104 : decode cX7_descend 104 = .ok (.ireturn, 1) := by decide +kernel
theorem dX7_descend_105 : decode cX7_descend 105 = .ok (.aload_n 0, 1) := by decide +kernel
theorem dX7_descend_106 : decode cX7_descend 106 = .ok (.getfield 42, 3) := by decide +kernel
theorem dX7_descend_109 : decode cX7_descend 109 = .ok (.bipush 40, 2) := by decide +kernel
theorem dX7_descend_111 : decode cX7_descend 111 = .ok (.lshl, 1) := by decide +kernel
theorem dX7_descend_112 : decode cX7_descend 112 = .ok (.iload_n 1, 1) := by decide +kernel
theorem dX7_descend_113 : decode cX7_descend 113 = .ok (.i2l, 1) := by decide +kernel
theorem dX7_descend_114 : decode cX7_descend 114 = .ok (.bipush 36, 2) := by decide +kernel
theorem dX7_descend_116 : decode cX7_descend 116 = .ok (.lshl, 1) := by decide +kernel
theorem dX7_descend_117 : decode cX7_descend 117 = .ok (.lor, 1) := by decide +kernel
theorem dX7_descend_118 : decode cX7_descend 118 = .ok (.iload 4, 2) := by decide +kernel
theorem dX7_descend_120 : decode cX7_descend 120 = .ok (.i2l, 1) := by decide +kernel
theorem dX7_descend_121 : decode cX7_descend 121 = .ok (.bipush 18, 2) := by decide +kernel
theorem dX7_descend_123 : decode cX7_descend 123 = .ok (.lshl, 1) := by decide +kernel
theorem dX7_descend_124 : decode cX7_descend 124 = .ok (.lor, 1) := by decide +kernel
theorem dX7_descend_125 : decode cX7_descend 125 = .ok (.iload 5, 2) := by decide +kernel
theorem dX7_descend_127 : decode cX7_descend 127 = .ok (.i2l, 1) := by decide +kernel
theorem dX7_descend_128 : decode cX7_descend 128 = .ok (.lor, 1) := by decide +kernel
theorem dX7_descend_129 : decode cX7_descend 129 = .ok (.lstore 6, 2) := by decide +kernel
theorem dX7_descend_131 : decode cX7_descend 131 = .ok (.lload 6, 2) := by decide +kernel
theorem dX7_descend_133 : decode cX7_descend 133 = .ok (.ldc2_w 127, 3) := by decide +kernel
theorem dX7_descend_136 : decode cX7_descend 136 = .ok (.lmul, 1) := by decide +kernel
theorem dX7_descend_137 : decode cX7_descend 137 = .ok (.bipush 32, 2) := by decide +kernel
theorem dX7_descend_139 : decode cX7_descend 139 = .ok (.lushr, 1) := by decide +kernel
theorem dX7_descend_140 : decode cX7_descend 140 = .ok (.l2i, 1) := by decide +kernel
theorem dX7_descend_141 : decode cX7_descend 141 = .ok (.sipush 1023, 3) := by decide +kernel
theorem dX7_descend_144 : decode cX7_descend 144 = .ok (.iand, 1) := by decide +kernel
theorem dX7_descend_145 : decode cX7_descend 145 = .ok (.istore 8, 2) := by decide +kernel
theorem dX7_descend_147 : decode cX7_descend 147 = .ok (.aload_n 0, 1) := by decide +kernel
theorem dX7_descend_148 : decode cX7_descend 148 = .ok (.getfield 39, 3) := by decide +kernel
theorem dX7_descend_151 : decode cX7_descend 151 = .ok (.iload 8, 2) := by decide +kernel
theorem dX7_descend_153 : decode cX7_descend 153 = .ok (.laload, 1) := by decide +kernel
theorem dX7_descend_154 : decode cX7_descend 154 = .ok (.lload 6, 2) := by decide +kernel
theorem dX7_descend_156 : decode cX7_descend 156 = .ok (.lcmp, 1) := by decide +kernel
theorem dX7_descend_157 : decode cX7_descend 157 = .ok (.ifCond .ne 5, 3) := by decide +kernel
theorem dX7_descend_160 : decode cX7_descend 160 = .ok (.iconst 0, 1) := by decide +kernel
theorem dX7_descend_161 : decode cX7_descend 161 = .ok (.ireturn, 1) := by decide +kernel
theorem dX7_descend_162 : decode cX7_descend 162 = .ok (.aload_n 0, 1) := by decide +kernel
theorem dX7_descend_163 : decode cX7_descend 163 = .ok (.iload_n 1, 1) := by decide +kernel
theorem dX7_descend_164 : decode cX7_descend 164 = .ok (.iload 4, 2) := by decide +kernel
theorem dX7_descend_166 : decode cX7_descend 166 = .ok (.iload 5, 2) := by decide +kernel
theorem dX7_descend_168 : decode cX7_descend 168 = .ok (.invokevirtual 129, 3) := by decide +kernel
theorem dX7_descend_171 : decode cX7_descend 171 = .ok (.ifCond .eq 5, 3) := by decide +kernel
theorem dX7_descend_174 : decode cX7_descend 174 = .ok (.iconst 1, 1) := by decide +kernel
theorem dX7_descend_175 : decode cX7_descend 175 = .ok (.ireturn, 1) := by decide +kernel
theorem dX7_descend_176 : decode cX7_descend 176 = .ok (.aload_n 0, 1) := by decide +kernel
theorem dX7_descend_177 : decode cX7_descend 177 = .ok (.getfield 39, 3) := by decide +kernel
theorem dX7_descend_180 : decode cX7_descend 180 = .ok (.iload 8, 2) := by decide +kernel
theorem dX7_descend_182 : decode cX7_descend 182 = .ok (.lload 6, 2) := by decide +kernel
theorem dX7_descend_184 : decode cX7_descend 184 = .ok (.lastore, 1) := by decide +kernel
theorem dX7_descend_185 : decode cX7_descend 185 = .ok (.iconst 0, 1) := by decide +kernel
theorem dX7_descend_186 : decode cX7_descend 186 = .ok (.ireturn, 1) := by decide +kernel
theorem e_X7_descend_97 {X : gk_X} {F : Nat} {dg : Nat} {g : gk_S → Nat → Int32 → Int32 → Int32 → Option (Int32 × gk_S)} (hg : ∀ (S : gk_S) (q0 : Nat) (q1 : Int32) (q2 : Int32) (q3 : Int32) (r : Int32 × gk_S), g S q0 q1 q2 q3 = some r → EvM X m_X7_descend dg 0 0 [.ref q0, .int q1, .int q2, .int q3] S (qRI r)) {l0 : Nat} {l1 : Int32} {l4 : Int32} {l5 : Int32} {S : gk_S} {r : (Int32 × gk_S)} (h0 : f_X7_descend_97 F g l0 l1 l4 l5 S = some r) : EvW X m_X7_descend (dg + 5) 0 0 97 [some (.ref l0), some (.int l1), none, none, some (.int l4), some (.int l5), none, none, none] [] S (qRI r) := by
  unfold f_X7_descend_97 at h0
  refine ev_iload_n (pc := 97) (i := 1) rfl rfl dX7_descend_97 ?_
  refine ev_bipush (pc := 98) (v := 7) (by decide) dX7_descend_98 ?_
  refine ev_ic_ne (pc := 100) (tgt := 105) (by decide) dX7_descend_100 (fun c21 => ?_) (fun c21 => ?_)
  · replace h0 := qi_f h0 c21
    refine ev_aload_n (pc := 105) (i := 0) rfl rfl rfl dX7_descend_105 ?_
    obtain ⟨g23, h24⟩ := qk_el h0; clear h0
    obtain ⟨x25, e26, h27⟩ := qv_el h24; clear h24
    refine xv_getJv (pc := 106) fn_508 (isb_el g23) e26 gw_173 dX7_descend_106 ?_
    refine ev_bipush (pc := 109) (v := 40) (by decide) dX7_descend_109 ?_
    refine ev_lshl (pc := 111)  dX7_descend_111 ?_
    refine ev_iload_n (pc := 112) (i := 1) rfl rfl dX7_descend_112 ?_
    refine ev_i2l (pc := 113)  dX7_descend_113 ?_
    refine ev_bipush (pc := 114) (v := 36) (by decide) dX7_descend_114 ?_
    refine ev_lshl (pc := 116)  dX7_descend_116 ?_
    refine ev_lor (pc := 117)  dX7_descend_117 ?_
    obtain ⟨x28, e29, h30⟩ := qv_el h27; clear h27
    refine xv_topl e29 ?_
    refine ev_iload (pc := 118) (i := 4) rfl dX7_descend_118 ?_
    refine ev_i2l (pc := 120)  dX7_descend_120 ?_
    refine ev_bipush (pc := 121) (v := 18) (by decide) dX7_descend_121 ?_
    refine ev_lshl (pc := 123)  dX7_descend_123 ?_
    refine ev_lor (pc := 124)  dX7_descend_124 ?_
    obtain ⟨x31, e32, h33⟩ := qv_el h30; clear h30
    refine xv_topl e32 ?_
    refine ev_iload (pc := 125) (i := 5) rfl dX7_descend_125 ?_
    refine ev_i2l (pc := 127)  dX7_descend_127 ?_
    refine ev_lor (pc := 128)  dX7_descend_128 ?_
    obtain ⟨x34, e35, h36⟩ := qv_el h33; clear h33
    refine xv_topl e35 ?_
    refine ev_lstore (pc := 129) (L' := [some (.ref l0), some (.int l1), none, none, some (.int l4), some (.int l5), some (.long x34), none, none]) (i := 6) (by decide) rfl rfl dX7_descend_129 ?_
    refine ev_lload (pc := 131) (i := 6) rfl dX7_descend_131 ?_
    refine ev_ldc2 (pc := 133) (v := -7046029254386353131) gw_878 dX7_descend_133 ?_
    refine ev_lmul (pc := 136)  dX7_descend_136 ?_
    refine ev_bipush (pc := 137) (v := 32) (by decide) dX7_descend_137 ?_
    refine ev_lushr (pc := 139)  dX7_descend_139 ?_
    obtain ⟨x37, e38, h39⟩ := qv_el h36; clear h36
    refine xv_topl e38 ?_
    refine ev_l2i (pc := 140)  dX7_descend_140 ?_
    refine ev_sipush (pc := 141) (v := 1023) (by decide) dX7_descend_141 ?_
    refine ev_iand (pc := 144)  dX7_descend_144 ?_
    obtain ⟨x40, e41, h42⟩ := qv_el h39; clear h39
    refine xv_top e41 ?_
    refine ev_istore (pc := 145) (L' := [some (.ref l0), some (.int l1), none, none, some (.int l4), some (.int l5), some (.long x34), none, some (.int x40)]) (i := 8) (by decide) rfl rfl dX7_descend_145 ?_
    refine ev_aload_n (pc := 147) (i := 0) rfl rfl rfl dX7_descend_147 ?_
    obtain ⟨b43, e44, h45⟩ := qP_el h42; clear h42
    refine xv_getP (pc := 148) fn_507 (isb_el g23) e44 gw_172 dX7_descend_148 ?_
    refine ev_iload (pc := 151) (i := 8) rfl dX7_descend_151 ?_
    obtain ⟨g46, h47⟩ := qk_el h45; clear h45
    obtain ⟨g48, h49⟩ := qk_el h47; clear h47
    obtain ⟨x50, e51, h52⟩ := qv_el h49; clear h49
    refine yv_lald (pc := 153) (isb_el g46) (inb_el g48) e51 dX7_descend_153 ?_
    refine ev_lload (pc := 154) (i := 6) rfl dX7_descend_154 ?_
    refine ev_lcmp (pc := 156)  dX7_descend_156 ?_
    refine ev_if_ne (pc := 157) (tgt := 162) (by decide) dX7_descend_157 (fun c53 => ?_) (fun c53 => ?_)
    · replace h52 := qi_f h52 (lc_eqN c53)
      refine ev_aload_n (pc := 162) (i := 0) rfl rfl rfl dX7_descend_162 ?_
      refine ev_iload_n (pc := 163) (i := 1) rfl rfl dX7_descend_163 ?_
      refine ev_iload (pc := 164) (i := 4) rfl dX7_descend_164 ?_
      refine ev_iload (pc := 166) (i := 5) rfl dX7_descend_166 ?_
      obtain ⟨x55, S56, e57, h58⟩ := qc_el h52; clear h52
      refine xv_callV (pc := 168) (st := []) (as := [.int l1, .int l4, .int l5]) (v := (some (.int x55))) (S' := S56) ok_X7_goThrough (e_X7_goThrough hg e57) (isb_el g23) (by omega) rfl (Nat.le_of_ble_eq_true rfl) rfl gw_879 dX7_descend_168 ?_
      refine ev_if_eq (pc := 171) (tgt := 176) (by decide) dX7_descend_171 (fun c59 => ?_) (fun c59 => ?_)
      · replace h58 := qi_t h58 c59
        refine ev_aload_n (pc := 176) (i := 0) rfl rfl rfl dX7_descend_176 ?_
        obtain ⟨g61, h62⟩ := qk_el h58; clear h58
        obtain ⟨b63, e64, h65⟩ := qP_el h62; clear h62
        refine xv_getP (pc := 177) fn_507 (isb_el g61) e64 gw_172 dX7_descend_177 ?_
        refine ev_iload (pc := 180) (i := 8) rfl dX7_descend_180 ?_
        refine ev_lload (pc := 182) (i := 6) rfl dX7_descend_182 ?_
        obtain ⟨g66, h67⟩ := qk_el h65; clear h65
        obtain ⟨g68, h69⟩ := qk_el h67; clear h67
        obtain ⟨S70, e71, h72⟩ := qv_el h69; clear h69
        refine yv_last (pc := 184) (isb_el g66) (inb_el g68) e71 dX7_descend_184 ?_
        refine ev_iconst (pc := 185) (v := 0) (by decide) dX7_descend_185 ?_
        exact ev_ireturn (pc := 186) rfl rfl (qRI_eq h72) dX7_descend_186
      · replace h58 := qi_f h58 c59
        refine ev_iconst (pc := 174) (v := 1) (by decide) dX7_descend_174 ?_
        exact ev_ireturn (pc := 175) rfl rfl (qRI_eq h58) dX7_descend_175
    · replace h52 := qi_t h52 (lc_eq c53)
      refine ev_iconst (pc := 160) (v := 0) (by decide) dX7_descend_160 ?_
      exact ev_ireturn (pc := 161) rfl rfl (qRI_eq h52) dX7_descend_161
  · replace h0 := qi_t h0 c21
    refine ev_iconst (pc := 103) (v := 0) (by decide) dX7_descend_103 ?_
    exact ev_ireturn (pc := 104) rfl rfl (qRI_eq h0) dX7_descend_104
theorem e_X7_descend_74 {X : gk_X} {F : Nat} {dg : Nat} {g : gk_S → Nat → Int32 → Int32 → Int32 → Option (Int32 × gk_S)} (hg : ∀ (S : gk_S) (q0 : Nat) (q1 : Int32) (q2 : Int32) (q3 : Int32) (r : Int32 × gk_S), g S q0 q1 q2 q3 = some r → EvM X m_X7_descend dg 0 0 [.ref q0, .int q1, .int q2, .int q3] S (qRI r)) : ∀ (n : Nat) (l0 : Nat) (l6 : Int32) (S : gk_S) (r : (Int32 × gk_S)), f_X7_descend_74 F g n l0 l6 S = some r → EvW X m_X7_descend (dg + 5) 0 0 74 [some (.ref l0), none, none, none, none, none, some (.int l6), none, none] [] S (qRI r) := by
  intro n
  induction n with
  | zero => intro l0 l6 S r h0; rw [f_X7_descend_74] at h0; cases h0
  | succ n ih =>
    intro l0 l6 S r h0; rw [f_X7_descend_74] at h0
    refine ev_iload (pc := 74) (i := 6) rfl dX7_descend_74 ?_
    refine ev_bipush (pc := 76) (v := 7) (by decide) dX7_descend_76 ?_
    refine ev_ic_ge (pc := 78) (tgt := 95) (by decide) dX7_descend_78 (fun c75 => ?_) (fun c75 => ?_)
    · replace h0 := qi_t h0 c75
      refine ev_iconst (pc := 95) (v := 1) (by decide) dX7_descend_95 ?_
      exact ev_ireturn (pc := 96) rfl rfl (qRI_eq h0) dX7_descend_96
    · replace h0 := qi_f h0 c75
      refine ev_aload_n (pc := 81) (i := 0) rfl rfl rfl dX7_descend_81 ?_
      obtain ⟨g77, h78⟩ := qk_el h0; clear h0
      obtain ⟨b79, e80, h81⟩ := qP_el h78; clear h78
      refine xv_getP (pc := 82) fn_500 (isb_el g77) e80 gw_164 dX7_descend_82 ?_
      refine ev_iload (pc := 85) (i := 6) rfl dX7_descend_85 ?_
      refine ev_lconst (pc := 87) (v := 0) (by decide) dX7_descend_87 ?_
      obtain ⟨g82, h83⟩ := qk_el h81; clear h81
      obtain ⟨g84, h85⟩ := qk_el h83; clear h83
      obtain ⟨S86, e87, h88⟩ := qv_el h85; clear h85
      refine yv_last (pc := 88) (isb_el g82) (inb_el g84) e87 dX7_descend_88 ?_
      refine ev_iinc (pc := 89) (L' := [some (.ref l0), none, none, none, none, none, some (.int (l6 + 1)), none, none]) (i := 6) (v := (l6 + 1)) rfl rfl (by decide) rfl rfl dX7_descend_89 ?_
      refine ev_goto (pc := 92) (tgt := 74) (by decide) dX7_descend_92 ?_
      exact (ev_weak (qL_s (qL_n (qL_n (qL_n (qL_n (qL_n (qL_s (qL_n (qL_n qL_nil))))))))) (ih _ _ _ _ h88))
theorem e_X7_descend_55 {X : gk_X} {F : Nat} {dg : Nat} {g : gk_S → Nat → Int32 → Int32 → Int32 → Option (Int32 × gk_S)} (hg : ∀ (S : gk_S) (q0 : Nat) (q1 : Int32) (q2 : Int32) (q3 : Int32) (r : Int32 × gk_S), g S q0 q1 q2 q3 = some r → EvM X m_X7_descend dg 0 0 [.ref q0, .int q1, .int q2, .int q3] S (qRI r)) {l0 : Nat} {l1 : Int32} {l4 : Int32} {l5 : Int32} {S : gk_S} {r : (Int32 × gk_S)} (h0 : f_X7_descend_55 F g l0 l1 l4 l5 S = some r) : EvW X m_X7_descend (dg + 5) 0 0 55 [some (.ref l0), some (.int l1), none, none, some (.int l4), some (.int l5), none, none, none] [] S (qRI r) := by
  unfold f_X7_descend_55 at h0
  refine ev_iload (pc := 55) (i := 4) rfl dX7_descend_55 ?_
  refine ev_ldc (pc := 57) (v := 65535) gw_870 dX7_descend_57 ?_
  refine ev_iand (pc := 59)  dX7_descend_59 ?_
  refine ev_if_ne (pc := 60) (tgt := 97) (by decide) dX7_descend_60 (fun c19 => ?_) (fun c19 => ?_)
  · replace h0 := qi_f h0 c19
    exact ev_weak (qL_s (qL_s (qL_n (qL_n (qL_s (qL_s (qL_n (qL_n (qL_n qL_nil))))))))) (e_X7_descend_97 hg h0)
  · replace h0 := qi_t h0 c19
    refine ev_iload (pc := 63) (i := 5) rfl dX7_descend_63 ?_
    refine ev_ldc (pc := 65) (v := 65535) gw_870 dX7_descend_65 ?_
    refine ev_iand (pc := 67)  dX7_descend_67 ?_
    refine ev_if_ne (pc := 68) (tgt := 97) (by decide) dX7_descend_68 (fun c73 => ?_) (fun c73 => ?_)
    · replace h0 := qi_f h0 c73
      exact ev_weak (qL_s (qL_s (qL_n (qL_n (qL_s (qL_s (qL_n (qL_n (qL_n qL_nil))))))))) (e_X7_descend_97 hg h0)
    · replace h0 := qi_t h0 c73
      refine ev_iload_n (pc := 71) (i := 1) rfl rfl dX7_descend_71 ?_
      refine ev_istore (pc := 72) (L' := [some (.ref l0), some (.int l1), none, none, some (.int l4), some (.int l5), some (.int l1), none, none]) (i := 6) (by decide) rfl rfl dX7_descend_72 ?_
      exact ev_weak (qL_s (qL_n (qL_n (qL_n (qL_n (qL_n (qL_s (qL_n (qL_n qL_nil))))))))) (e_X7_descend_74 hg F _ _ _ _ h0)
theorem e_X7_descend {X : gk_X} {F : Nat} {dg : Nat} {g : gk_S → Nat → Int32 → Int32 → Int32 → Option (Int32 × gk_S)} (hg : ∀ (S : gk_S) (q0 : Nat) (q1 : Int32) (q2 : Int32) (q3 : Int32) (r : Int32 × gk_S), g S q0 q1 q2 q3 = some r → EvM X m_X7_descend dg 0 0 [.ref q0, .int q1, .int q2, .int q3] S (qRI r)) {S : gk_S} {a : Nat} {p0 : Int32} {p1 : Int32} {p2 : Int32} {r : (Int32 × gk_S)} (h0 : f_X7_descend F g S a p0 p1 p2 = some r) : EvM X m_X7_descend (dg + 5) 0 0 [.ref a, .int p0, .int p1, .int p2] S (qRI r) := by
  unfold f_X7_descend at h0
  refine ev_method (by decide +kernel) rfl rfl (Nat.le_of_ble_eq_true rfl) ?_
  show EvW X m_X7_descend (dg + 5) 0 0 0 [some (.ref a), some (.int p0), some (.int p1), some (.int p2), none, none, none, none, none] [] S _
  refine ev_iload_n (pc := 0) (i := 1) rfl rfl dX7_descend_0 ?_
  refine ev_if_lt (pc := 1) (tgt := 10) (by decide) dX7_descend_1 (fun c1 => ?_) (fun c1 => ?_)
  · replace h0 := qi_t h0 c1
    refine ev_iconst (pc := 10) (v := 0) (by decide) dX7_descend_10 ?_
    exact ev_ireturn (pc := 11) rfl rfl (qRI_eq h0) dX7_descend_11
  · replace h0 := qi_f h0 c1
    refine ev_iload_n (pc := 4) (i := 1) rfl rfl dX7_descend_4 ?_
    refine ev_bipush (pc := 5) (v := 7) (by decide) dX7_descend_5 ?_
    refine ev_ic_le (pc := 7) (tgt := 12) (by decide) dX7_descend_7 (fun c3 => ?_) (fun c3 => ?_)
    · replace h0 := qi_t h0 c3
      refine ev_aload_n (pc := 12) (i := 0) rfl rfl rfl dX7_descend_12 ?_
      refine ev_iload_n (pc := 13) (i := 1) rfl rfl dX7_descend_13 ?_
      refine ev_iload_n (pc := 14) (i := 2) rfl rfl dX7_descend_14 ?_
      refine ev_iconst (pc := 15) (v := 0) (by decide) dX7_descend_15 ?_
      obtain ⟨g5, h6⟩ := qk_el h0; clear h0
      obtain ⟨x7, S8, e9, h10⟩ := qc_el h6; clear h6
      refine xv_callV (pc := 16) (st := []) (as := [.int p0, .int p1, .int 0]) (v := (some (.int x7))) (S' := S8) ok_X7_settle (e_X7_settle e9) (isb_el g5) (by omega) rfl (Nat.le_of_ble_eq_true rfl) rfl gw_866 dX7_descend_16 ?_
      refine ev_istore (pc := 19) (L' := [some (.ref a), some (.int p0), some (.int p1), some (.int p2), some (.int x7), none, none, none, none]) (i := 4) (by decide) rfl rfl dX7_descend_19 ?_
      refine ev_aload_n (pc := 21) (i := 0) rfl rfl rfl dX7_descend_21 ?_
      refine ev_iload_n (pc := 22) (i := 1) rfl rfl dX7_descend_22 ?_
      refine ev_iload_n (pc := 23) (i := 3) rfl rfl dX7_descend_23 ?_
      refine ev_bipush (pc := 24) (v := 16) (by decide) dX7_descend_24 ?_
      obtain ⟨g11, h12⟩ := qk_el h10; clear h10
      obtain ⟨x13, S14, e15, h16⟩ := qc_el h12; clear h12
      refine xv_callV (pc := 26) (st := []) (as := [.int p0, .int p2, .int 16]) (v := (some (.int x13))) (S' := S14) ok_X7_settle (e_X7_settle e15) (isb_el g11) (by omega) rfl (Nat.le_of_ble_eq_true rfl) rfl gw_866 dX7_descend_26 ?_
      refine ev_istore (pc := 29) (L' := [some (.ref a), some (.int p0), some (.int p1), some (.int p2), some (.int x7), some (.int x13), none, none, none]) (i := 5) (by decide) rfl rfl dX7_descend_29 ?_
      refine ev_iload (pc := 31) (i := 4) rfl dX7_descend_31 ?_
      refine ev_iload (pc := 33) (i := 5) rfl dX7_descend_33 ?_
      refine ev_ic_ne (pc := 35) (tgt := 55) (by decide) dX7_descend_35 (fun c17 => ?_) (fun c17 => ?_)
      · replace h16 := qi_f h16 c17
        exact ev_weak (qL_s (qL_s (qL_n (qL_n (qL_s (qL_s (qL_n (qL_n (qL_n qL_nil))))))))) (e_X7_descend_55 hg h16)
      · replace h16 := qi_t h16 c17
        refine ev_iload (pc := 38) (i := 4) rfl dX7_descend_38 ?_
        refine ev_ldc (pc := 40) (v := 65535) gw_870 dX7_descend_40 ?_
        refine ev_iand (pc := 42)  dX7_descend_42 ?_
        refine ev_aload_n (pc := 43) (i := 0) rfl rfl rfl dX7_descend_43 ?_
        obtain ⟨g89, h90⟩ := qk_el h16; clear h16
        obtain ⟨x91, e92, h93⟩ := qv_el h90; clear h90
        refine xv_getIv (pc := 44) fn_506 (isb_el g89) e92 gw_171 dX7_descend_44 ?_
        refine ev_iconst (pc := 47) (v := -1) (by decide) dX7_descend_47 ?_
        refine ev_ixor (pc := 48)  dX7_descend_48 ?_
        refine ev_iand (pc := 49)  dX7_descend_49 ?_
        refine ev_if_ne (pc := 50) (tgt := 55) (by decide) dX7_descend_50 (fun c94 => ?_) (fun c94 => ?_)
        · replace h93 := qi_f h93 c94
          exact ev_weak (qL_s (qL_s (qL_n (qL_n (qL_s (qL_s (qL_n (qL_n (qL_n qL_nil))))))))) (e_X7_descend_55 hg h93)
        · replace h93 := qi_t h93 c94
          refine ev_iconst (pc := 53) (v := 0) (by decide) dX7_descend_53 ?_
          exact ev_ireturn (pc := 54) rfl rfl (qRI_eq h93) dX7_descend_54
    · replace h0 := qi_f h0 c3
      refine ev_iconst (pc := 10) (v := 0) (by decide) dX7_descend_10 ?_
      exact ev_ireturn (pc := 11) rfl rfl (qRI_eq h0) dX7_descend_11
theorem e_X7_descend_r {X : gk_X} {F : Nat} : ∀ (n : Nat) (S : gk_S) (a : Nat) (p0 p1 p2 : Int32) (r : Int32 × gk_S), f_X7_descend_r F n S a p0 p1 p2 = some r → EvM X m_X7_descend (5 * n) 0 0 [.ref a, .int p0, .int p1, .int p2] S (qRI r) := by
  intro n
  induction n with
  | zero => intro S a p0 p1 p2 r h0; rw [f_X7_descend_r] at h0; cases h0
  | succ n ih =>
    intro S a p0 p1 p2 r h0; rw [f_X7_descend_r] at h0
    exact e_X7_descend (dg := 5 * n) ih h0
theorem dX7_differ_0 : decode cX7_differ 0 = .ok (.aload_n 0, 1) := by decide +kernel
theorem dX7_differ_1 : decode cX7_differ 1 = .ok (.dup, 1) := by decide +kernel
theorem dX7_differ_2 : decode cX7_differ 2 = .ok (.getfield 42, 3) := by decide +kernel
theorem dX7_differ_5 : decode cX7_differ 5 = .ok (.lconst 1, 1) := by decide +kernel
theorem dX7_differ_6 : decode cX7_differ 6 = .ok (.ladd, 1) := by decide +kernel
theorem dX7_differ_7 : decode cX7_differ 7 = .ok (.putfield 42, 3) := by decide +kernel
theorem dX7_differ_10 : decode cX7_differ 10 = .ok (.aload_n 0, 1) := by decide +kernel
theorem dX7_differ_11 : decode cX7_differ 11 = .ok (.iconst 0, 1) := by decide +kernel
theorem dX7_differ_12 : decode cX7_differ 12 = .ok (.iload_n 1, 1) := by decide +kernel
theorem dX7_differ_13 : decode cX7_differ 13 = .ok (.iload_n 2, 1) := by decide +kernel
theorem dX7_differ_14 : decode cX7_differ 14 = .ok (.invokevirtual 70, 3) := by decide +kernel
theorem dX7_differ_17 : decode cX7_differ 17 = .ok (.ireturn, 1) := by decide +kernel
theorem e_X7_differ {X : gk_X} {F : Nat} {S : gk_S} {a : Nat} {p0 : Int32} {p1 : Int32} {r : (Int32 × gk_S)} (h0 : f_X7_differ F S a p0 p1 = some r) : EvM X m_X7_differ 46 0 0 [.ref a, .int p0, .int p1] S (qRI r) := by
  unfold f_X7_differ at h0
  refine ev_method (by decide +kernel) rfl rfl (Nat.le_of_ble_eq_true rfl) ?_
  show EvW X m_X7_differ 46 0 0 0 [some (.ref a), some (.int p0), some (.int p1)] [] S _
  refine ev_aload_n (pc := 0) (i := 0) rfl rfl rfl dX7_differ_0 ?_
  refine ev_dup (pc := 1) (.inr rfl) dX7_differ_1 ?_
  obtain ⟨g1, h2⟩ := qk_el h0; clear h0
  obtain ⟨x3, e4, h5⟩ := qv_el h2; clear h2
  refine xv_getJv (pc := 2) fn_508 (isb_el g1) e4 gw_173 dX7_differ_2 ?_
  refine ev_lconst (pc := 5) (v := 1) (by decide) dX7_differ_5 ?_
  refine ev_ladd (pc := 6)  dX7_differ_6 ?_
  obtain ⟨S6, e7, h8⟩ := qv_el h5; clear h5
  refine yv_putJ (pc := 7) fn_508 (isb_el g1) e7 gw_173 dX7_differ_7 ?_
  refine ev_aload_n (pc := 10) (i := 0) rfl rfl rfl dX7_differ_10 ?_
  refine ev_iconst (pc := 11) (v := 0) (by decide) dX7_differ_11 ?_
  refine ev_iload_n (pc := 12) (i := 1) rfl rfl dX7_differ_12 ?_
  refine ev_iload_n (pc := 13) (i := 2) rfl rfl dX7_differ_13 ?_
  obtain ⟨x9, S10, e11, h12⟩ := qc_el h8; clear h8
  refine xv_callV (pc := 14) (st := []) (as := [.int 0, .int p0, .int p1]) (v := (some (.int x9))) (S' := S10) ok_X7_descend (e_X7_descend_r 9 _ _ _ _ _ _ e11) (is_sJ (isb_el g1) e7) (by decide) rfl (Nat.le_of_ble_eq_true rfl) rfl gw_862 dX7_differ_14 ?_
  obtain ⟨g13, h14⟩ := qk_el h12; clear h12
  exact ev_ireturn (pc := 17) rfl (zb_nar g13) (qRI_eq h14) dX7_differ_17
theorem dX7_tellsApart_0 : decode cX7_tellsApart 0 = .ok (.aload_n 0, 1) := by decide +kernel
theorem dX7_tellsApart_1 : decode cX7_tellsApart 1 = .ok (.aload_n 1, 1) := by decide +kernel
theorem dX7_tellsApart_2 : decode cX7_tellsApart 2 = .ok (.aload_n 1, 1) := by decide +kernel
theorem dX7_tellsApart_3 : decode cX7_tellsApart 3 = .ok (.getfield 46, 3) := by decide +kernel
theorem dX7_tellsApart_6 : decode cX7_tellsApart 6 = .ok (.aload_n 2, 1) := by decide +kernel
theorem dX7_tellsApart_7 : decode cX7_tellsApart 7 = .ok (.aload_n 2, 1) := by decide +kernel
theorem dX7_tellsApart_8 : decode cX7_tellsApart 8 = .ok (.getfield 46, 3) := by decide +kernel
theorem dX7_tellsApart_11 : decode cX7_tellsApart 11 = .ok (.invokevirtual 51, 3) := by decide +kernel
theorem dX7_tellsApart_14 : decode cX7_tellsApart 14 = .ok (.aload_n 0, 1) := by decide +kernel
theorem dX7_tellsApart_15 : decode cX7_tellsApart 15 = .ok (.aload_n 1, 1) := by decide +kernel
theorem dX7_tellsApart_16 : decode cX7_tellsApart 16 = .ok (.getfield 46, 3) := by decide +kernel
theorem dX7_tellsApart_19 : decode cX7_tellsApart 19 = .ok (.invokestatic 55, 3) := by decide +kernel
theorem dX7_tellsApart_22 : decode cX7_tellsApart 22 = .ok (.aload_n 1, 1) := by decide +kernel
theorem dX7_tellsApart_23 : decode cX7_tellsApart 23 = .ok (.getfield 59, 3) := by decide +kernel
theorem dX7_tellsApart_26 : decode cX7_tellsApart 26 = .ok (.invokestatic 62, 3) := by decide +kernel
theorem dX7_tellsApart_29 : decode cX7_tellsApart 29 = .ok (.aload_n 2, 1) := by decide +kernel
theorem dX7_tellsApart_30 : decode cX7_tellsApart 30 = .ok (.getfield 46, 3) := by decide +kernel
theorem dX7_tellsApart_33 : decode cX7_tellsApart 33 = .ok (.invokestatic 55, 3) := by decide +kernel
theorem dX7_tellsApart_36 : decode cX7_tellsApart 36 = .ok (.aload_n 2, 1) := by decide +kernel
theorem dX7_tellsApart_37 : decode cX7_tellsApart 37 = .ok (.getfield 59, 3) := by decide +kernel
theorem dX7_tellsApart_40 : decode cX7_tellsApart 40 = .ok (.invokestatic 62, 3) := by decide +kernel
theorem dX7_tellsApart_43 : decode cX7_tellsApart 43 = .ok (.invokevirtual 66, 3) := by decide +kernel
theorem dX7_tellsApart_46 : decode cX7_tellsApart 46 = .ok (.ireturn, 1) := by decide +kernel
theorem e_X7_tellsApart {X : gk_X} {F : Nat} {S : gk_S} {a : Nat} {p0 : Nat} {p1 : Nat} {r : (Int32 × gk_S)} (h0 : f_X7_tellsApart F S a p0 p1 = some r) : EvM X m_X7_tellsApart 47 0 0 [.ref a, .ref p0, .ref p1] S (qRI r) := by
  unfold f_X7_tellsApart at h0
  refine ev_method (by decide +kernel) rfl rfl (Nat.le_of_ble_eq_true rfl) ?_
  show EvW X m_X7_tellsApart 47 0 0 0 [some (.ref a), some (.ref p0), some (.ref p1)] [] S _
  refine ev_aload_n (pc := 0) (i := 0) rfl rfl rfl dX7_tellsApart_0 ?_
  refine ev_aload_n (pc := 1) (i := 1) rfl rfl rfl dX7_tellsApart_1 ?_
  refine ev_aload_n (pc := 2) (i := 1) rfl rfl rfl dX7_tellsApart_2 ?_
  obtain ⟨g1, h2⟩ := qk_el h0; clear h0
  obtain ⟨x3, e4, h5⟩ := qv_el h2; clear h2
  refine xv_getIv (pc := 3) fn_401 (isb_el g1) e4 gw_92 dX7_tellsApart_3 ?_
  refine ev_aload_n (pc := 6) (i := 2) rfl rfl rfl dX7_tellsApart_6 ?_
  refine ev_aload_n (pc := 7) (i := 2) rfl rfl rfl dX7_tellsApart_7 ?_
  obtain ⟨g6, h7⟩ := qk_el h5; clear h5
  obtain ⟨x8, e9, h10⟩ := qv_el h7; clear h7
  refine xv_getIv (pc := 8) fn_401 (isb_el g6) e9 gw_92 dX7_tellsApart_8 ?_
  obtain ⟨g11, h12⟩ := qk_el h10; clear h10
  obtain ⟨x13, S14, e15, h16⟩ := qc_el h12; clear h12
  refine xv_callV (pc := 11) (st := []) (as := [.ref p0, .int x3, .ref p1, .int x8]) (v := none) (S' := S14) ok_X7_prepare (e_X7_prepare e15) (isb_el g11) (by decide) rfl (Nat.le_of_ble_eq_true rfl) rfl gw_820 dX7_tellsApart_11 ?_
  refine ev_aload_n (pc := 14) (i := 0) rfl rfl rfl dX7_tellsApart_14 ?_
  refine ev_aload_n (pc := 15) (i := 1) rfl rfl rfl dX7_tellsApart_15 ?_
  obtain ⟨g17, h18⟩ := qk_el h16; clear h16
  obtain ⟨x19, e20, h21⟩ := qv_el h18; clear h18
  refine xv_getIv (pc := 16) fn_401 (isb_el g17) e20 gw_92 dX7_tellsApart_16 ?_
  obtain ⟨x22, S23, e24, h25⟩ := qc_el h21; clear h21
  refine xv_callS (pc := 19) (st := [.ref a]) (as := [.int x19]) (v := (some (.int x22))) (S' := S23) ok_X7_bitsBelow (e_X7_bitsBelow e24) (by decide) rfl (Nat.le_of_ble_eq_true rfl) rfl gw_852 dX7_tellsApart_19 ?_
  refine ev_aload_n (pc := 22) (i := 1) rfl rfl rfl dX7_tellsApart_22 ?_
  obtain ⟨g26, h27⟩ := qk_el h25; clear h25
  obtain ⟨x28, e29, h30⟩ := qv_el h27; clear h27
  refine xv_getIv (pc := 23) fn_402 (isb_el g26) e29 gw_98 dX7_tellsApart_23 ?_
  obtain ⟨x31, S32, e33, h34⟩ := qc_el h30; clear h30
  refine xv_callS (pc := 26) (st := [.ref a]) (as := [.int x22, .int x28]) (v := (some (.int x31))) (S' := S32) ok_X7_side (e_X7_side e33) (by decide) rfl (Nat.le_of_ble_eq_true rfl) rfl gw_855 dX7_tellsApart_26 ?_
  refine ev_aload_n (pc := 29) (i := 2) rfl rfl rfl dX7_tellsApart_29 ?_
  obtain ⟨g35, h36⟩ := qk_el h34; clear h34
  obtain ⟨x37, e38, h39⟩ := qv_el h36; clear h36
  refine xv_getIv (pc := 30) fn_401 (isb_el g35) e38 gw_92 dX7_tellsApart_30 ?_
  obtain ⟨x40, S41, e42, h43⟩ := qc_el h39; clear h39
  refine xv_callS (pc := 33) (st := [.int x31, .ref a]) (as := [.int x37]) (v := (some (.int x40))) (S' := S41) ok_X7_bitsBelow (e_X7_bitsBelow e42) (by decide) rfl (Nat.le_of_ble_eq_true rfl) rfl gw_852 dX7_tellsApart_33 ?_
  refine ev_aload_n (pc := 36) (i := 2) rfl rfl rfl dX7_tellsApart_36 ?_
  obtain ⟨g44, h45⟩ := qk_el h43; clear h43
  obtain ⟨x46, e47, h48⟩ := qv_el h45; clear h45
  refine xv_getIv (pc := 37) fn_402 (isb_el g44) e47 gw_98 dX7_tellsApart_37 ?_
  obtain ⟨x49, S50, e51, h52⟩ := qc_el h48; clear h48
  refine xv_callS (pc := 40) (st := [.int x31, .ref a]) (as := [.int x40, .int x46]) (v := (some (.int x49))) (S' := S50) ok_X7_side (e_X7_side e51) (by decide) rfl (Nat.le_of_ble_eq_true rfl) rfl gw_855 dX7_tellsApart_40 ?_
  obtain ⟨g53, h54⟩ := qk_el h52; clear h52
  obtain ⟨x55, S56, e57, h58⟩ := qc_el h54; clear h54
  refine xv_callV (pc := 43) (st := []) (as := [.int x31, .int x49]) (v := (some (.int x55))) (S' := S56) ok_X7_differ (e_X7_differ e57) (isb_el g53) (by decide) rfl (Nat.le_of_ble_eq_true rfl) rfl gw_858 dX7_tellsApart_43 ?_
  obtain ⟨g59, h60⟩ := qk_el h58; clear h58
  exact ev_ireturn (pc := 46) rfl (zb_nar g59) (qRI_eq h60) dX7_tellsApart_46
theorem dX11_keepPoint_0 : decode cX11_keepPoint 0 = .ok (.iconst 0, 1) := by decide +kernel
theorem dX11_keepPoint_1 : decode cX11_keepPoint 1 = .ok (.istore_n 1, 1) := by decide +kernel
theorem dX11_keepPoint_2 : decode cX11_keepPoint 2 = .ok (.iload_n 1, 1) := by decide +kernel
theorem dX11_keepPoint_3 : decode cX11_keepPoint 3 = .ok (.bipush 7, 2) := by decide +kernel
theorem dX11_keepPoint_5 : decode cX11_keepPoint 5 = .ok (.if_icmp .ge 24, 3) := by decide +kernel
theorem dX11_keepPoint_8 : decode cX11_keepPoint 8 = .ok (.aload_n 0, 1) := by decide +kernel
theorem dX11_keepPoint_9 : decode cX11_keepPoint 9 = .ok (.getfield 68, 3) := by decide +kernel
theorem dX11_keepPoint_12 : decode cX11_keepPoint 12 = .ok (.iload_n 1, 1) := by decide +kernel
theorem dX11_keepPoint_13 : decode cX11_keepPoint 13 = .ok (.aload_n 0, 1) := by decide +kernel
theorem dX11_keepPoint_14 : decode cX11_keepPoint 14 = .ok (.getfield 44, 3) := by decide +kernel
theorem dX11_keepPoint_17 : decode cX11_keepPoint 17 = .ok (.getfield 268, 3) := by decide +kernel
theorem dX11_keepPoint_20 : decode cX11_keepPoint 20 = .ok (.iload_n 1, 1) := by decide +kernel
theorem dX11_keepPoint_21 : decode cX11_keepPoint 21 = .ok (.laload, 1) := by decide +kernel
theorem dX11_keepPoint_22 : decode cX11_keepPoint 22 = .ok (.lastore, 1) := by decide +kernel
theorem dX11_keepPoint_23 : decode cX11_keepPoint 23 = .ok (.iinc 1 1, 3) := by decide +kernel
theorem dX11_keepPoint_26 : decode cX11_keepPoint 26 = .ok (.goto (-24), 3) := by decide +kernel
theorem dX11_keepPoint_29 : decode cX11_keepPoint 29 = .ok (.aload_n 0, 1) := by decide +kernel
theorem dX11_keepPoint_30 : decode cX11_keepPoint 30 = .ok (.iconst 1, 1) := by decide +kernel
theorem dX11_keepPoint_31 : decode cX11_keepPoint 31 = .ok (.putfield 72, 3) := by decide +kernel
theorem dX11_keepPoint_34 : decode cX11_keepPoint 34 = .ok (.return_, 1) := by decide +kernel
theorem e_X11_keepPoint_2 {X : gk_X} {F : Nat} : ∀ (n : Nat) (l0 : Nat) (l1 : Int32) (S : gk_S) (r : (Unit × gk_S)), f_X11_keepPoint_2 F n l0 l1 S = some r → EvW X m_X11_keepPoint 1 0 0 2 [some (.ref l0), some (.int l1)] [] S (qRU r) := by
  intro n
  induction n with
  | zero => intro l0 l1 S r h0; rw [f_X11_keepPoint_2] at h0; cases h0
  | succ n ih =>
    intro l0 l1 S r h0; rw [f_X11_keepPoint_2] at h0
    refine ev_iload_n (pc := 2) (i := 1) rfl rfl dX11_keepPoint_2 ?_
    refine ev_bipush (pc := 3) (v := 7) (by decide) dX11_keepPoint_3 ?_
    refine ev_ic_ge (pc := 5) (tgt := 29) (by decide) dX11_keepPoint_5 (fun c1 => ?_) (fun c1 => ?_)
    · replace h0 := qi_t h0 c1
      refine ev_aload_n (pc := 29) (i := 0) rfl rfl rfl dX11_keepPoint_29 ?_
      refine ev_iconst (pc := 30) (v := 1) (by decide) dX11_keepPoint_30 ?_
      obtain ⟨g3, h4⟩ := qk_el h0; clear h0
      obtain ⟨S5, e6, h7⟩ := qv_el h4; clear h4
      refine yv_putI (pc := 31) fn_811 ⟨rfl, rfl⟩ (isb_el g3) e6 gw_293 dX11_keepPoint_31 ?_
      exact ev_return (pc := 34) rfl (qRU_eq h7) dX11_keepPoint_34
    · replace h0 := qi_f h0 c1
      refine ev_aload_n (pc := 8) (i := 0) rfl rfl rfl dX11_keepPoint_8 ?_
      obtain ⟨g8, h9⟩ := qk_el h0; clear h0
      obtain ⟨b10, e11, h12⟩ := qP_el h9; clear h9
      refine xv_getP (pc := 9) fn_809 (isb_el g8) e11 gw_291 dX11_keepPoint_9 ?_
      refine ev_iload_n (pc := 12) (i := 1) rfl rfl dX11_keepPoint_12 ?_
      refine ev_aload_n (pc := 13) (i := 0) rfl rfl rfl dX11_keepPoint_13 ?_
      obtain ⟨b13, e14, h15⟩ := qP_el h12; clear h12
      refine xv_getP (pc := 14) fn_804 (isb_el g8) e14 gw_286 dX11_keepPoint_14 ?_
      obtain ⟨g16, h17⟩ := qk_el h15; clear h15
      obtain ⟨b18, e19, h20⟩ := qP_el h17; clear h17
      refine xv_getP (pc := 17) fn_500 (isb_el g16) e19 gw_165 dX11_keepPoint_17 ?_
      refine ev_iload_n (pc := 20) (i := 1) rfl rfl dX11_keepPoint_20 ?_
      obtain ⟨g21, h22⟩ := qk_el h20; clear h20
      obtain ⟨g23, h24⟩ := qk_el h22; clear h22
      obtain ⟨x25, e26, h27⟩ := qv_el h24; clear h24
      refine yv_lald (pc := 21) (isb_el g21) (inb_el g23) e26 dX11_keepPoint_21 ?_
      obtain ⟨g28, h29⟩ := qk_el h27; clear h27
      obtain ⟨g30, h31⟩ := qk_el h29; clear h29
      obtain ⟨S32, e33, h34⟩ := qv_el h31; clear h31
      refine yv_last (pc := 22) (isb_el g28) (inb_el g30) e33 dX11_keepPoint_22 ?_
      refine ev_iinc (pc := 23) (L' := [some (.ref l0), some (.int (l1 + 1))]) (i := 1) (v := (l1 + 1)) rfl rfl (by decide) rfl rfl dX11_keepPoint_23 ?_
      refine ev_goto (pc := 26) (tgt := 2) (by decide) dX11_keepPoint_26 ?_
      exact (ev_weak (qL_s (qL_s qL_nil)) (ih _ _ _ _ h34))
theorem e_X11_keepPoint {X : gk_X} {F : Nat} {S : gk_S} {a : Nat} {r : (Unit × gk_S)} (h0 : f_X11_keepPoint F S a = some r) : EvM X m_X11_keepPoint 1 0 0 [.ref a] S (qRU r) := by
  unfold f_X11_keepPoint at h0
  refine ev_method (by decide +kernel) rfl rfl (Nat.le_of_ble_eq_true rfl) ?_
  show EvW X m_X11_keepPoint 1 0 0 0 [some (.ref a), none] [] S _
  refine ev_iconst (pc := 0) (v := 0) (by decide) dX11_keepPoint_0 ?_
  refine ev_istore_n (pc := 1) (L' := [some (.ref a), some (.int 0)]) (i := 1) rfl (by decide) rfl rfl dX11_keepPoint_1 ?_
  exact ev_weak (qL_s (qL_s qL_nil)) (e_X11_keepPoint_2 F _ _ _ _ h0)
theorem dX11_alike_0 : decode cX11_alike 0 = .ok (.iload_n 1, 1) := by decide +kernel
theorem dX11_alike_1 : decode cX11_alike 1 = .ok (.invokestatic 89, 3) := by decide +kernel
theorem dX11_alike_4 : decode cX11_alike 4 = .ok (.iload_n 2, 1) := by decide +kernel
theorem dX11_alike_5 : decode cX11_alike 5 = .ok (.invokestatic 89, 3) := by decide +kernel
theorem dX11_alike_8 : decode cX11_alike 8 = .ok (.iload_n 1, 1) := by decide +kernel
theorem dX11_alike_9 : decode cX11_alike 9 = .ok (.iload_n 2, 1) := by decide +kernel
theorem dX11_alike_10 : decode cX11_alike 10 = .ok (.if_icmp .ne 5, 3) := by decide +kernel
theorem dX11_alike_13 : decode cX11_alike 13 = .ok (.iconst 1, 1) := by decide +kernel
theorem dX11_alike_14 : decode cX11_alike 14 = .ok (.ireturn, 1) := by decide +kernel
theorem dX11_alike_15 : decode cX11_alike 15 = .ok (.aload_n 0, 1) := by decide +kernel
theorem dX11_alike_16 : decode cX11_alike 16 = .ok (.getfield 44, 3) := by decide +kernel
theorem dX11_alike_19 : decode cX11_alike 19 = .ok (.aload_n 0, 1) := by decide +kernel
theorem dX11_alike_20 : decode cX11_alike 20 = .ok (.getfield 23, 3) := by decide +kernel
theorem dX11_alike_23 : decode cX11_alike 23 = .ok (.iload_n 1, 1) := by decide +kernel
theorem dX11_alike_24 : decode cX11_alike 24 = .ok (.aaload, 1) := by decide +kernel
theorem dX11_alike_25 : decode cX11_alike 25 = .ok (.aload_n 0, 1) := by decide +kernel
theorem dX11_alike_26 : decode cX11_alike 26 = .ok (.getfield 23, 3) := by decide +kernel
theorem dX11_alike_29 : decode cX11_alike 29 = .ok (.iload_n 2, 1) := by decide +kernel
theorem dX11_alike_30 : decode cX11_alike 30 = .ok (.aaload, 1) := by decide +kernel
theorem dX11_alike_31 : decode cX11_alike 31 = .ok (.invokevirtual 163, 3) := by decide +kernel
theorem dX11_alike_34 : decode cX11_alike 34 = .ok (.ifCond .ne 5, 3) := by decide +kernel
theorem dX11_alike_37 : decode cX11_alike 37 = .ok (.iconst 1, 1) := by decide +kernel
theorem dX11_alike_38 : decode cX11_alike 38 = .ok (.ireturn, 1) := by decide +kernel
theorem dX11_alike_39 : decode cX11_alike 39 = .ok (.aload_n 0, 1) := by decide +kernel
theorem dX11_alike_40 : decode cX11_alike 40 = .ok (.invokevirtual 160, 3) := by decide +kernel
theorem dX11_alike_43 : decode cX11_alike 43 = .ok (.iconst 0, 1) := by decide +kernel
theorem dX11_alike_44 : decode cX11_alike 44 = .ok (.ireturn, 1) := by decide +kernel
theorem e_X11_alike {X : gk_X} {F : Nat} {k j : Nat} {S : gk_S} {a : Nat} {p0 : Int32} {p1 : Int32} {r : ((Int32 ⊕ String) × gk_S)} (hb : qb r k j) (h0 : f_X11_alike F S a p0 p1 = some r) : EvM X m_X11_alike 48 k j [.ref a, .int p0, .int p1] S (qXI r) := by
  unfold f_X11_alike at h0
  refine ev_method (by decide +kernel) rfl rfl (Nat.le_of_ble_eq_true rfl) ?_
  show EvW X m_X11_alike 48 k j 0 [some (.ref a), some (.int p0), some (.int p1)] [] S _
  refine ev_iload_n (pc := 0) (i := 1) rfl rfl dX11_alike_0 ?_
  rcases qx_el h0 with ⟨E5, T6, e3, z1⟩ | ⟨x1, S2, e3, h4⟩
  · subst z1
    exact xv_thrS (pc := 1) (st := []) (as := [.int p0]) ok_X11_checkList (e_X11_checkList (fun _ _ => qb_inr hb) e3) rfl rfl (by decide) (Nat.le_refl _) (Nat.le_refl _) rfl (Nat.le_of_ble_eq_true rfl) rfl gw_386 dX11_alike_1
  clear h0
  refine xv_callS (pc := 1) (st := []) (as := [.int p0]) (v := none) (S' := S2) ok_X11_checkList (e_X11_checkList (k := 0) (j := 0) qb_inl e3) (by decide) rfl (Nat.le_of_ble_eq_true rfl) rfl gw_386 dX11_alike_1 ?_
  refine ev_iload_n (pc := 4) (i := 2) rfl rfl dX11_alike_4 ?_
  rcases qx_el h4 with ⟨E11, T12, e9, z1⟩ | ⟨x7, S8, e9, h10⟩
  · subst z1
    exact xv_thrS (pc := 5) (st := []) (as := [.int p1]) ok_X11_checkList (e_X11_checkList (fun _ _ => qb_inr hb) e9) rfl rfl (by decide) (Nat.le_refl _) (Nat.le_refl _) rfl (Nat.le_of_ble_eq_true rfl) rfl gw_386 dX11_alike_5
  clear h4
  refine xv_callS (pc := 5) (st := []) (as := [.int p1]) (v := none) (S' := S8) ok_X11_checkList (e_X11_checkList (k := 0) (j := 0) qb_inl e9) (by decide) rfl (Nat.le_of_ble_eq_true rfl) rfl gw_386 dX11_alike_5 ?_
  refine ev_iload_n (pc := 8) (i := 1) rfl rfl dX11_alike_8 ?_
  refine ev_iload_n (pc := 9) (i := 2) rfl rfl dX11_alike_9 ?_
  refine ev_ic_ne (pc := 10) (tgt := 15) (by decide) dX11_alike_10 (fun c13 => ?_) (fun c13 => ?_)
  · replace h10 := qi_f h10 c13
    refine ev_aload_n (pc := 15) (i := 0) rfl rfl rfl dX11_alike_15 ?_
    obtain ⟨g15, h16⟩ := qk_el h10; clear h10
    obtain ⟨b17, e18, h19⟩ := qP_el h16; clear h16
    refine xv_getP (pc := 16) fn_804 (isb_el g15) e18 gw_286 dX11_alike_16 ?_
    refine ev_aload_n (pc := 19) (i := 0) rfl rfl rfl dX11_alike_19 ?_
    obtain ⟨b20, e21, h22⟩ := qP_el h19; clear h19
    refine xv_getP (pc := 20) fn_802 (isb_el g15) e21 gw_284 dX11_alike_20 ?_
    refine ev_iload_n (pc := 23) (i := 1) rfl rfl dX11_alike_23 ?_
    obtain ⟨g23, h24⟩ := qk_el h22; clear h22
    obtain ⟨g25, h26⟩ := qk_el h24; clear h24
    obtain ⟨b27, e28, h29⟩ := qP_el h26; clear h26
    refine yv_aald (pc := 24) (isb_el g23) (by decide) (inb_el g25) e28 dX11_alike_24 ?_
    refine ev_aload_n (pc := 25) (i := 0) rfl rfl rfl dX11_alike_25 ?_
    obtain ⟨b30, e31, h32⟩ := qP_el h29; clear h29
    refine xv_getP (pc := 26) fn_802 (isb_el g15) e31 gw_284 dX11_alike_26 ?_
    refine ev_iload_n (pc := 29) (i := 2) rfl rfl dX11_alike_29 ?_
    obtain ⟨g33, h34⟩ := qk_el h32; clear h32
    obtain ⟨g35, h36⟩ := qk_el h34; clear h34
    obtain ⟨b37, e38, h39⟩ := qP_el h36; clear h36
    refine yv_aald (pc := 30) (isb_el g33) (by decide) (inb_el g35) e38 dX11_alike_30 ?_
    obtain ⟨g40, h41⟩ := qk_el h39; clear h39
    obtain ⟨x42, S43, e44, h45⟩ := qc_el h41; clear h41
    refine xv_callV (pc := 31) (st := []) (as := [.ref b27, .ref b37]) (v := (some (.int x42))) (S' := S43) ok_X7_tellsApart (e_X7_tellsApart e44) (isb_el g40) (by decide) rfl (Nat.le_of_ble_eq_true rfl) rfl gw_895 dX11_alike_31 ?_
    refine ev_if_ne (pc := 34) (tgt := 39) (by decide) dX11_alike_34 (fun c46 => ?_) (fun c46 => ?_)
    · replace h45 := qi_f h45 c46
      refine ev_aload_n (pc := 39) (i := 0) rfl rfl rfl dX11_alike_39 ?_
      obtain ⟨g48, h49⟩ := qk_el h45; clear h45
      obtain ⟨x50, S51, e52, h53⟩ := qc_el h49; clear h49
      refine xv_callV (pc := 40) (st := []) (as := []) (v := none) (S' := S51) ok_X11_keepPoint (e_X11_keepPoint e52) (isb_el g48) (by decide) rfl (Nat.le_of_ble_eq_true rfl) rfl gw_884 dX11_alike_40 ?_
      refine ev_iconst (pc := 43) (v := 0) (by decide) dX11_alike_43 ?_
      cases h53
      exact ev_ireturn (pc := 44) rfl rfl rfl dX11_alike_44
    · replace h45 := qi_t h45 c46
      refine ev_iconst (pc := 37) (v := 1) (by decide) dX11_alike_37 ?_
      cases h45
      exact ev_ireturn (pc := 38) rfl rfl rfl dX11_alike_38
  · replace h10 := qi_t h10 c13
    refine ev_iconst (pc := 13) (v := 1) (by decide) dX11_alike_13 ?_
    cases h10
    exact ev_ireturn (pc := 14) rfl rfl rfl dX11_alike_14
theorem dL_alike_0 : decode cL_alike 0 = .ok (.aload_n 3, 1) := by decide +kernel
theorem dL_alike_1 : decode cL_alike 1 = .ok (.iconst 0, 1) := by decide +kernel
theorem dL_alike_2 : decode cL_alike 2 = .ok (.aload_n 0, 1) := by decide +kernel
theorem dL_alike_3 : decode cL_alike 3 = .ok (.iload_n 1, 1) := by decide +kernel
theorem dL_alike_4 : decode cL_alike 4 = .ok (.iload_n 2, 1) := by decide +kernel
theorem dL_alike_5 : decode cL_alike 5 = .ok (.invokevirtual 40, 3) := by decide +kernel
theorem dL_alike_8 : decode cL_alike 8 = .ok (.ifCond .eq 7, 3) := by decide +kernel
theorem dL_alike_11 : decode cL_alike 11 = .ok (.lconst 1, 1) := by decide +kernel
theorem dL_alike_12 : decode cL_alike 12 = .ok (.goto 4, 3) := by decide +kernel
theorem dL_alike_15 : decode cL_alike 15 = .ok (.lconst 0, 1) := by decide +kernel
theorem dL_alike_16 : decode cL_alike 16 = .ok (.lastore, 1) := by decide +kernel
theorem dL_alike_17 : decode cL_alike 17 = .ok (.goto 7, 3) := by decide +kernel
theorem dL_alike_20 : decode cL_alike 20 = .ok (.astore 4, 2) := by decide +kernel
theorem dL_alike_22 : decode cL_alike 22 = .ok (.iconst 1, 1) := by decide +kernel
theorem dL_alike_23 : decode cL_alike 23 = .ok (.ireturn, 1) := by decide +kernel
theorem dL_alike_24 : decode cL_alike 24 = .ok (.iconst 0, 1) := by decide +kernel
theorem dL_alike_25 : decode cL_alike 25 = .ok (.ireturn, 1) := by decide +kernel
theorem e_L_alike {X : gk_X} {F : Nat} {k j : Nat} {S : gk_S} {p0 : Nat} {p1 : Int32} {p2 : Int32} {p3 : Nat} {r : (Int32 × gk_S)} (hb : r.1 = 0 ∨ (1 ≤ k ∧ 6 ≤ j)) (h0 : f_L_alike F S p0 p1 p2 p3 = some r) : EvM X m_L_alike 49 k j [.ref p0, .int p1, .int p2, .ref p3] S (qRI r) := by
  unfold f_L_alike at h0
  refine ev_methodH (by decide +kernel) (by decide) rfl (Nat.le_of_ble_eq_true rfl) ?_
  show EvW X m_L_alike 49 k j 0 [some (.ref p0), some (.int p1), some (.int p2), some (.ref p3), none] [] S _
  refine ev_aload_n (pc := 0) (i := 3) rfl rfl rfl dL_alike_0 ?_
  refine ev_iconst (pc := 1) (v := 0) (by decide) dL_alike_1 ?_
  refine ev_aload_n (pc := 2) (i := 0) rfl rfl rfl dL_alike_2 ?_
  refine ev_iload_n (pc := 3) (i := 1) rfl rfl dL_alike_3 ?_
  refine ev_iload_n (pc := 4) (i := 2) rfl rfl dL_alike_4 ?_
  obtain ⟨g1, h2⟩ := qk_el h0; clear h0
  rcases qh_el h2 with ⟨E7, T8, e5, h6⟩ | ⟨x3, S4, e5, h6⟩
  · by_cases c9 : E7 = gx_I
    · replace h6 := qi_t h6 c9; subst c9
      have hb9 : 1 ≤ k ∧ 6 ≤ j := by cases h6; exact hb.resolve_left (show ¬ (1 : Int32) = 0 by decide)
      refine yv_catV (pc := 5) (st := [.int 0, .ref p3]) (as := [.int p1, .int p2]) (i9 := 4) (len9 := 2) (pre := []) (suf := []) (x := (0, 17, 20, 13)) (name := "java/lang/IndexOutOfBoundsException") ok_X11_alike (e_X11_alike (k := k) (j := j) (fun _ _ => hb9) e5) (isb_el g1) rfl (by intro z hz; cases hz) (by decide) (by decide) (by decide) gw_381 (by decide +kernel) (.inl ⟨rfl, rfl⟩) (by decide) rfl (gl9 rfl) (by decide) rfl (Nat.le_of_ble_eq_true rfl) rfl gw_891 dL_alike_5 dL_alike_20 ?_
      refine ev_iconst (pc := 22) (v := 1) (by decide) dL_alike_22 ?_
      exact ev_ireturn (pc := 23) rfl rfl (by cases h6; rfl) dL_alike_23
    replace h6 := qi_f h6 c9
    cases h6
  clear h2
  refine xv_callV (pc := 5) (st := [.int 0, .ref p3]) (as := [.int p1, .int p2]) (v := (some (.int x3))) (S' := S4) ok_X11_alike (e_X11_alike (k := 0) (j := 0) qb_inl e5) (isb_el g1) (by decide) rfl (Nat.le_of_ble_eq_true rfl) rfl gw_891 dL_alike_5 ?_
  refine ev_if_eq (pc := 8) (tgt := 15) (by decide) dL_alike_8 (fun c10 => ?_) (fun c10 => ?_)
  · replace h6 := qi_t h6 c10
    refine ev_lconst (pc := 15) (v := 0) (by decide) dL_alike_15 ?_
    obtain ⟨g12, h13⟩ := qk_el h6; clear h6
    obtain ⟨g14, h15⟩ := qk_el h13; clear h13
    obtain ⟨S16, e17, h18⟩ := qv_el h15; clear h15
    refine yv_last (pc := 16) (isb_el g12) (inb_el g14) e17 dL_alike_16 ?_
    refine ev_goto (pc := 17) (tgt := 24) (by decide) dL_alike_17 ?_
    refine ev_iconst (pc := 24) (v := 0) (by decide) dL_alike_24 ?_
    exact ev_ireturn (pc := 25) rfl (nar_int _) (qRI_eq h18) dL_alike_25
  · replace h6 := qi_f h6 c10
    refine ev_lconst (pc := 11) (v := 1) (by decide) dL_alike_11 ?_
    refine ev_goto (pc := 12) (tgt := 16) (by decide) dL_alike_12 ?_
    obtain ⟨g19, h20⟩ := qk_el h6; clear h6
    obtain ⟨g21, h22⟩ := qk_el h20; clear h20
    obtain ⟨S23, e24, h25⟩ := qv_el h22; clear h22
    refine yv_last (pc := 16) (isb_el g19) (inb_el g21) e24 dL_alike_16 ?_
    refine ev_goto (pc := 17) (tgt := 24) (by decide) dL_alike_17 ?_
    refine ev_iconst (pc := 24) (v := 0) (by decide) dL_alike_24 ?_
    exact ev_ireturn (pc := 25) rfl (nar_int _) (qRI_eq h25) dL_alike_25
theorem dX8_at_0 : decode cX8_at 0 = .ok (.aload_n 0, 1) := by decide +kernel
theorem dX8_at_1 : decode cX8_at 1 = .ok (.getfield 13, 3) := by decide +kernel
theorem dX8_at_4 : decode cX8_at 4 = .ok (.iload_n 1, 1) := by decide +kernel
theorem dX8_at_5 : decode cX8_at 5 = .ok (.ifCond .lt 13, 3) := by decide +kernel
theorem dX8_at_8 : decode cX8_at 8 = .ok (.iload_n 1, 1) := by decide +kernel
theorem dX8_at_9 : decode cX8_at 9 = .ok (.bipush 64, 2) := by decide +kernel
theorem dX8_at_11 : decode cX8_at 11 = .ok (.if_icmp .ge 7, 3) := by decide +kernel
theorem dX8_at_14 : decode cX8_at 14 = .ok (.iload_n 1, 1) := by decide +kernel
theorem dX8_at_15 : decode cX8_at 15 = .ok (.goto 4, 3) := by decide +kernel
theorem dX8_at_18 : decode cX8_at 18 = .ok (.iconst 0, 1) := by decide +kernel
theorem dX8_at_19 : decode cX8_at 19 = .ok (.aaload, 1) := by decide +kernel
theorem dX8_at_20 : decode cX8_at 20 = .ok (.areturn, 1) := by decide +kernel
theorem e_X8_at {X : gk_X} {F : Nat} {S : gk_S} {a : Nat} {p0 : Int32} {r : (Nat × gk_S)} (h0 : f_X8_at F S a p0 = some r) : EvM X m_X8_at 1 0 0 [.ref a, .int p0] S (qRP r) := by
  unfold f_X8_at at h0
  refine ev_method (by decide +kernel) rfl rfl (Nat.le_of_ble_eq_true rfl) ?_
  show EvW X m_X8_at 1 0 0 0 [some (.ref a), some (.int p0)] [] S _
  refine ev_aload_n (pc := 0) (i := 0) rfl rfl rfl dX8_at_0 ?_
  obtain ⟨g1, h2⟩ := qk_el h0; clear h0
  obtain ⟨b3, e4, h5⟩ := qP_el h2; clear h2
  refine xv_getP (pc := 1) fn_600 (isb_el g1) e4 gw_237 dX8_at_1 ?_
  refine ev_iload_n (pc := 4) (i := 1) rfl rfl dX8_at_4 ?_
  refine ev_if_lt (pc := 5) (tgt := 18) (by decide) dX8_at_5 (fun c6 => ?_) (fun c6 => ?_)
  · replace h5 := qi_t h5 c6
    refine ev_iconst (pc := 18) (v := 0) (by decide) dX8_at_18 ?_
    obtain ⟨g8, h9⟩ := qk_el h5; clear h5
    obtain ⟨g10, h11⟩ := qk_el h9; clear h9
    obtain ⟨b12, e13, h14⟩ := qP_el h11; clear h11
    refine yv_aald (pc := 19) (isb_el g8) (by decide) (inb_el g10) e13 dX8_at_19 ?_
    exact ev_areturn (pc := 20) rfl (by first | exact .inl ⟨_, rfl⟩ | exact .inr ⟨_, rfl⟩) rfl (qRP_eq h14) dX8_at_20
  · replace h5 := qi_f h5 c6
    refine ev_iload_n (pc := 8) (i := 1) rfl rfl dX8_at_8 ?_
    refine ev_bipush (pc := 9) (v := 64) (by decide) dX8_at_9 ?_
    refine ev_ic_ge (pc := 11) (tgt := 18) (by decide) dX8_at_11 (fun c15 => ?_) (fun c15 => ?_)
    · replace h5 := qi_t h5 c15
      refine ev_iconst (pc := 18) (v := 0) (by decide) dX8_at_18 ?_
      obtain ⟨g17, h18⟩ := qk_el h5; clear h5
      obtain ⟨g19, h20⟩ := qk_el h18; clear h18
      obtain ⟨b21, e22, h23⟩ := qP_el h20; clear h20
      refine yv_aald (pc := 19) (isb_el g17) (by decide) (inb_el g19) e22 dX8_at_19 ?_
      exact ev_areturn (pc := 20) rfl (by first | exact .inl ⟨_, rfl⟩ | exact .inr ⟨_, rfl⟩) rfl (qRP_eq h23) dX8_at_20
    · replace h5 := qi_f h5 c15
      refine ev_iload_n (pc := 14) (i := 1) rfl rfl dX8_at_14 ?_
      refine ev_goto (pc := 15) (tgt := 19) (by decide) dX8_at_15 ?_
      obtain ⟨g24, h25⟩ := qk_el h5; clear h5
      obtain ⟨g26, h27⟩ := qk_el h25; clear h25
      obtain ⟨b28, e29, h30⟩ := qP_el h27; clear h27
      refine yv_aald (pc := 19) (isb_el g24) (by decide) (inb_el g26) e29 dX8_at_19 ?_
      exact ev_areturn (pc := 20) rfl (by first | exact .inl ⟨_, rfl⟩ | exact .inr ⟨_, rfl⟩) rfl (qRP_eq h30) dX8_at_20
theorem dX0_part_0 : decode cX0_part 0 = .ok (.iload_n 1, 1) := by decide +kernel
theorem dX0_part_1 : decode cX0_part 1 = .ok (.tableswitch 99 0 7 #[47, 52, 58, 64, 70, 76, 81, 94], 47) := by decide +kernel
theorem dX0_part_48 : decode cX0_part 48 = .ok (.aload_n 0, 1) := by decide +kernel
theorem dX0_part_49 : decode cX0_part 49 = .ok (.getfield 9, 3) := by decide +kernel
theorem dX0_part_52 : decode cX0_part 52 = .ok (.ireturn, 1) := by decide +kernel
theorem dX0_part_53 : decode cX0_part 53 = .ok (.aload_n 0, 1) := by decide +kernel
theorem dX0_part_54 : decode cX0_part 54 = .ok (.getfield 15, 3) := by decide +kernel
theorem dX0_part_57 : decode cX0_part 57 = .ok (.l2i, 1) := by decide +kernel
theorem dX0_part_58 : decode cX0_part 58 = .ok (.ireturn, 1) := by decide +kernel
theorem dX0_part_59 : decode cX0_part 59 = .ok (.aload_n 0, 1) := by decide +kernel
theorem dX0_part_60 : decode cX0_part 60 = .ok (.getfield 19, 3) := by decide +kernel
theorem dX0_part_63 : decode cX0_part 63 = .ok (.l2i, 1) := by decide +kernel
theorem dX0_part_64 : decode cX0_part 64 = .ok (.ireturn, 1) := by decide +kernel
theorem dX0_part_65 : decode cX0_part 65 = .ok (.aload_n 0, 1) := by decide +kernel
theorem dX0_part_66 : decode cX0_part 66 = .ok (.getfield 22, 3) := by decide +kernel
theorem dX0_part_69 : decode cX0_part 69 = .ok (.l2i, 1) := by decide +kernel
theorem dX0_part_70 : decode cX0_part 70 = .ok (.ireturn, 1) := by decide +kernel
theorem dX0_part_71 : decode cX0_part 71 = .ok (.aload_n 0, 1) := by decide +kernel
theorem dX0_part_72 : decode cX0_part 72 = .ok (.getfield 25, 3) := by decide +kernel
theorem dX0_part_75 : decode cX0_part 75 = .ok (.l2i, 1) := by decide +kernel
theorem dX0_part_76 : decode cX0_part 76 = .ok (.ireturn, 1) := by decide +kernel
theorem dX0_part_77 : decode cX0_part 77 = .ok (.aload_n 0, 1) := by decide +kernel
theorem dX0_part_78 : decode cX0_part 78 = .ok (.getfield 28, 3) := by decide +kernel
theorem dX0_part_81 : decode cX0_part 81 = .ok (.ireturn, 1) := by decide +kernel
theorem dX0_part_82 : decode cX0_part 82 = .ok (.aload_n 0, 1) := by decide +kernel
theorem dX0_part_83 : decode cX0_part 83 = .ok (.getfield 31, 3) := by decide +kernel
theorem dX0_part_86 : decode cX0_part 86 = .ok (.ifCond .eq 7, 3) := by decide +kernel
theorem dX0_part_89 : decode cX0_part 89 = .ok (.iconst 1, 1) := by decide +kernel
theorem dX0_part_90 : decode cX0_part 90 = .ok (.goto 4, 3) := by decide +kernel
theorem dX0_part_93 : decode cX0_part 93 = .ok (.iconst 0, 1) := by decide +kernel
theorem dX0_part_94 : decode cX0_part 94 = .ok (.ireturn, 1) := by decide +kernel
theorem dX0_part_95 : decode cX0_part 95 = .ok (.aload_n 0, 1) := by decide +kernel
theorem dX0_part_96 : decode cX0_part 96 = .ok (.getfield 35, 3) := by decide +kernel
theorem dX0_part_99 : decode cX0_part 99 = .ok (.ireturn, 1) := by decide +kernel
theorem dX0_part_100 : decode cX0_part 100 = .ok (.aload_n 0, 1) := by decide +kernel
theorem dX0_part_101 : decode cX0_part 101 = .ok (.getfield 38, 3) := by decide +kernel
theorem dX0_part_104 : decode cX0_part 104 = .ok (.ireturn, 1) := by decide +kernel
theorem e_X0_part {X : gk_X} {F : Nat} {S : gk_S} {a : Nat} {p0 : Int32} {r : (Int32 × gk_S)} (h0 : f_X0_part F S a p0 = some r) : EvM X m_X0_part 1 0 0 [.ref a, .int p0] S (qRI r) := by
  unfold f_X0_part at h0
  refine ev_method (by decide +kernel) rfl rfl (Nat.le_of_ble_eq_true rfl) ?_
  show EvW X m_X0_part 1 0 0 0 [some (.ref a), some (.int p0)] [] S _
  refine ev_iload_n (pc := 0) (i := 1) rfl rfl dX0_part_0 ?_
  by_cases c1 : p0 = 0
  · refine ev_tableIn (pc := 1) (off := 47) (tgt := 48) (by rw [c1]; decide) (by rw [c1]; decide) (by rw [c1]; rfl) (by decide) dX0_part_1 ?_
    replace h0 := qi_t h0 c1
    refine ev_aload_n (pc := 48) (i := 0) rfl rfl rfl dX0_part_48 ?_
    obtain ⟨g2, h3⟩ := qk_el h0; clear h0
    obtain ⟨x4, e5, h6⟩ := qv_el h3; clear h3
    refine xv_getIv (pc := 49) fn_0 (isb_el g2) e5 gw_207 dX0_part_49 ?_
    exact ev_ireturn (pc := 52) rfl (nar_int _) (qRI_eq h6) dX0_part_52
  replace h0 := qi_f h0 c1
  by_cases c7 : p0 = 1
  · refine ev_tableIn (pc := 1) (off := 52) (tgt := 53) (by rw [c7]; decide) (by rw [c7]; decide) (by rw [c7]; rfl) (by decide) dX0_part_1 ?_
    replace h0 := qi_t h0 c7
    refine ev_aload_n (pc := 53) (i := 0) rfl rfl rfl dX0_part_53 ?_
    obtain ⟨g8, h9⟩ := qk_el h0; clear h0
    obtain ⟨x10, e11, h12⟩ := qv_el h9; clear h9
    refine xv_getJv (pc := 54) fn_1 (isb_el g8) e11 gw_208 dX0_part_54 ?_
    refine ev_l2i (pc := 57)  dX0_part_57 ?_
    exact ev_ireturn (pc := 58) rfl (nar_int _) (qRI_eq h12) dX0_part_58
  replace h0 := qi_f h0 c7
  by_cases c13 : p0 = 2
  · refine ev_tableIn (pc := 1) (off := 58) (tgt := 59) (by rw [c13]; decide) (by rw [c13]; decide) (by rw [c13]; rfl) (by decide) dX0_part_1 ?_
    replace h0 := qi_t h0 c13
    refine ev_aload_n (pc := 59) (i := 0) rfl rfl rfl dX0_part_59 ?_
    obtain ⟨g14, h15⟩ := qk_el h0; clear h0
    obtain ⟨x16, e17, h18⟩ := qv_el h15; clear h15
    refine xv_getJv (pc := 60) fn_2 (isb_el g14) e17 gw_209 dX0_part_60 ?_
    refine ev_l2i (pc := 63)  dX0_part_63 ?_
    exact ev_ireturn (pc := 64) rfl (nar_int _) (qRI_eq h18) dX0_part_64
  replace h0 := qi_f h0 c13
  by_cases c19 : p0 = 3
  · refine ev_tableIn (pc := 1) (off := 64) (tgt := 65) (by rw [c19]; decide) (by rw [c19]; decide) (by rw [c19]; rfl) (by decide) dX0_part_1 ?_
    replace h0 := qi_t h0 c19
    refine ev_aload_n (pc := 65) (i := 0) rfl rfl rfl dX0_part_65 ?_
    obtain ⟨g20, h21⟩ := qk_el h0; clear h0
    obtain ⟨x22, e23, h24⟩ := qv_el h21; clear h21
    refine xv_getJv (pc := 66) fn_3 (isb_el g20) e23 gw_210 dX0_part_66 ?_
    refine ev_l2i (pc := 69)  dX0_part_69 ?_
    exact ev_ireturn (pc := 70) rfl (nar_int _) (qRI_eq h24) dX0_part_70
  replace h0 := qi_f h0 c19
  by_cases c25 : p0 = 4
  · refine ev_tableIn (pc := 1) (off := 70) (tgt := 71) (by rw [c25]; decide) (by rw [c25]; decide) (by rw [c25]; rfl) (by decide) dX0_part_1 ?_
    replace h0 := qi_t h0 c25
    refine ev_aload_n (pc := 71) (i := 0) rfl rfl rfl dX0_part_71 ?_
    obtain ⟨g26, h27⟩ := qk_el h0; clear h0
    obtain ⟨x28, e29, h30⟩ := qv_el h27; clear h27
    refine xv_getJv (pc := 72) fn_4 (isb_el g26) e29 gw_211 dX0_part_72 ?_
    refine ev_l2i (pc := 75)  dX0_part_75 ?_
    exact ev_ireturn (pc := 76) rfl (nar_int _) (qRI_eq h30) dX0_part_76
  replace h0 := qi_f h0 c25
  by_cases c31 : p0 = 5
  · refine ev_tableIn (pc := 1) (off := 76) (tgt := 77) (by rw [c31]; decide) (by rw [c31]; decide) (by rw [c31]; rfl) (by decide) dX0_part_1 ?_
    replace h0 := qi_t h0 c31
    refine ev_aload_n (pc := 77) (i := 0) rfl rfl rfl dX0_part_77 ?_
    obtain ⟨g32, h33⟩ := qk_el h0; clear h0
    obtain ⟨x34, e35, h36⟩ := qv_el h33; clear h33
    refine xv_getIv (pc := 78) fn_5 (isb_el g32) e35 gw_212 dX0_part_78 ?_
    exact ev_ireturn (pc := 81) rfl (nar_int _) (qRI_eq h36) dX0_part_81
  replace h0 := qi_f h0 c31
  by_cases c37 : p0 = 6
  · refine ev_tableIn (pc := 1) (off := 81) (tgt := 82) (by rw [c37]; decide) (by rw [c37]; decide) (by rw [c37]; rfl) (by decide) dX0_part_1 ?_
    replace h0 := qi_t h0 c37
    refine ev_aload_n (pc := 82) (i := 0) rfl rfl rfl dX0_part_82 ?_
    obtain ⟨g38, h39⟩ := qk_el h0; clear h0
    obtain ⟨x40, e41, h42⟩ := qv_el h39; clear h39
    refine xv_getIv (pc := 83) fn_6 (isb_el g38) e41 gw_213 dX0_part_83 ?_
    refine ev_if_eq (pc := 86) (tgt := 93) (by decide) dX0_part_86 (fun c43 => ?_) (fun c43 => ?_)
    · replace h42 := qi_t h42 c43
      refine ev_iconst (pc := 93) (v := 0) (by decide) dX0_part_93 ?_
      exact ev_ireturn (pc := 94) rfl (nar_int _) (qRI_eq h42) dX0_part_94
    · replace h42 := qi_f h42 c43
      refine ev_iconst (pc := 89) (v := 1) (by decide) dX0_part_89 ?_
      refine ev_goto (pc := 90) (tgt := 94) (by decide) dX0_part_90 ?_
      exact ev_ireturn (pc := 94) rfl (nar_int _) (qRI_eq h42) dX0_part_94
  replace h0 := qi_f h0 c37
  by_cases c45 : p0 = 7
  · refine ev_tableIn (pc := 1) (off := 94) (tgt := 95) (by rw [c45]; decide) (by rw [c45]; decide) (by rw [c45]; rfl) (by decide) dX0_part_1 ?_
    replace h0 := qi_t h0 c45
    refine ev_aload_n (pc := 95) (i := 0) rfl rfl rfl dX0_part_95 ?_
    obtain ⟨g46, h47⟩ := qk_el h0; clear h0
    obtain ⟨x48, e49, h50⟩ := qv_el h47; clear h47
    refine xv_getIv (pc := 96) fn_7 (isb_el g46) e49 gw_215 dX0_part_96 ?_
    exact ev_ireturn (pc := 99) rfl (nar_int _) (qRI_eq h50) dX0_part_99
  replace h0 := qi_f h0 c45
  refine ev_tableOut (pc := 1) (tgt := 100) (by have z0 := ti_ne c1 (n := 0) rfl; have z1 := ti_ne c7 (n := 1) rfl; have z2 := ti_ne c13 (n := 2) rfl; have z3 := ti_ne c19 (n := 3) rfl; have z4 := ti_ne c25 (n := 4) rfl; have z5 := ti_ne c31 (n := 5) rfl; have z6 := ti_ne c37 (n := 6) rfl; have z7 := ti_ne c45 (n := 7) rfl; omega) (by decide) dX0_part_1 ?_
  refine ev_aload_n (pc := 100) (i := 0) rfl rfl rfl dX0_part_100 ?_
  obtain ⟨g51, h52⟩ := qk_el h0; clear h0
  obtain ⟨x53, e54, h55⟩ := qv_el h52; clear h52
  refine xv_getIv (pc := 101) fn_8 (isb_el g51) e54 gw_216 dX0_part_101 ?_
  exact ev_ireturn (pc := 104) rfl (nar_int _) (qRI_eq h55) dX0_part_104
theorem dX11_connection_0 : decode cX11_connection 0 = .ok (.iload_n 1, 1) := by decide +kernel
theorem dX11_connection_1 : decode cX11_connection 1 = .ok (.ifCond .lt 14, 3) := by decide +kernel
theorem dX11_connection_4 : decode cX11_connection 4 = .ok (.iload_n 1, 1) := by decide +kernel
theorem dX11_connection_5 : decode cX11_connection 5 = .ok (.aload_n 0, 1) := by decide +kernel
theorem dX11_connection_6 : decode cX11_connection 6 = .ok (.getfield 51, 3) := by decide +kernel
theorem dX11_connection_9 : decode cX11_connection 9 = .ok (.getfield 226, 3) := by decide +kernel
theorem dX11_connection_12 : decode cX11_connection 12 = .ok (.if_icmp .lt 13, 3) := by decide +kernel
theorem dX11_connection_15 : decode cX11_connection 15 = .ok (.new 112, 3) := by decide +kernel
theorem dX11_connection_18 : decode cX11_connection 18 = .ok (.dup, 1) := by decide +kernel
theorem dX11_connection_19 : decode cX11_connection 19 = .ok (.ldc 227, 2) := by decide +kernel
theorem dX11_connection_21 : decode cX11_connection 21 = .ok (.invokespecial 116, 3) := by decide +kernel
theorem dX11_connection_24 : decode cX11_connection 24 = .ok (.athrow, 1) := by decide +kernel
theorem dX11_connection_25 : decode cX11_connection 25 = .ok (.iload_n 2, 1) := by decide +kernel
theorem dX11_connection_26 : decode cX11_connection 26 = .ok (.ifCond .lt 9, 3) := by decide +kernel
theorem dX11_connection_29 : decode cX11_connection 29 = .ok (.iload_n 2, 1) := by decide +kernel
theorem dX11_connection_30 : decode cX11_connection 30 = .ok (.bipush 8, 2) := by decide +kernel
theorem dX11_connection_32 : decode cX11_connection 32 = .ok (.if_icmp .le 13, 3) := by decide +kernel
theorem dX11_connection_35 : decode cX11_connection 35 = .ok (.new 112, 3) := by decide +kernel
theorem dX11_connection_38 : decode cX11_connection 38 = .ok (.dup, 1) := by decide +kernel
theorem dX11_connection_39 : decode cX11_connection 39 = .ok (.ldc 229, 2) := by decide +kernel
theorem dX11_connection_41 : decode cX11_connection 41 = .ok (.invokespecial 116, 3) := by decide +kernel
theorem dX11_connection_44 : decode cX11_connection 44 = .ok (.athrow, 1) := by decide +kernel
theorem dX11_connection_45 : decode cX11_connection 45 = .ok (.aload_n 0, 1) := by decide +kernel
theorem dX11_connection_46 : decode cX11_connection 46 = .ok (.getfield 51, 3) := by decide +kernel
theorem dX11_connection_49 : decode cX11_connection 49 = .ok (.iload_n 1, 1) := by decide +kernel
theorem dX11_connection_50 : decode cX11_connection 50 = .ok (.invokevirtual 231, 3) := by decide +kernel
theorem dX11_connection_53 : decode cX11_connection 53 = .ok (.iload_n 2, 1) := by decide +kernel
theorem dX11_connection_54 : decode cX11_connection 54 = .ok (.invokevirtual 234, 3) := by decide +kernel
theorem dX11_connection_57 : decode cX11_connection 57 = .ok (.ireturn, 1) := by decide +kernel
theorem e_X11_connection_15 {X : gk_X} {F : Nat} {k j : Nat}  {S : gk_S} {r : ((Int32 ⊕ String) × gk_S)} (hb : qb r k j) (h0 : f_X11_connection_15 F  S = some r) : EvW X m_X11_connection 6 k j 15 [none, none, none] [] S (qXI r) := by
  unfold f_X11_connection_15 at h0
  cases h0
  exact ev_throwN (pc := 15) (i := 31) (by decide) rfl rfl rfl rfl gw_680 gw_19 rfl (by decide) (by decide) (qb_inr hb).1 (qb_inr hb).2 rfl dX11_connection_15 dX11_connection_18 dX11_connection_19 dX11_connection_21 dX11_connection_24
theorem e_X11_connection_35 {X : gk_X} {F : Nat} {k j : Nat}  {S : gk_S} {r : ((Int32 ⊕ String) × gk_S)} (hb : qb r k j) (h0 : f_X11_connection_35 F  S = some r) : EvW X m_X11_connection 6 k j 35 [none, none, none] [] S (qXI r) := by
  unfold f_X11_connection_35 at h0
  cases h0
  exact ev_throwN (pc := 35) (i := 32) (by decide) rfl rfl rfl rfl gw_680 gw_19 rfl (by decide) (by decide) (qb_inr hb).1 (qb_inr hb).2 rfl dX11_connection_35 dX11_connection_38 dX11_connection_39 dX11_connection_41 dX11_connection_44
theorem e_X11_connection {X : gk_X} {F : Nat} {k j : Nat} {S : gk_S} {a : Nat} {p0 : Int32} {p1 : Int32} {r : ((Int32 ⊕ String) × gk_S)} (hb : qb r k j) (h0 : f_X11_connection F S a p0 p1 = some r) : EvM X m_X11_connection 6 k j [.ref a, .int p0, .int p1] S (qXI r) := by
  unfold f_X11_connection at h0
  refine ev_method (by decide +kernel) rfl rfl (Nat.le_of_ble_eq_true rfl) ?_
  show EvW X m_X11_connection 6 k j 0 [some (.ref a), some (.int p0), some (.int p1)] [] S _
  refine ev_iload_n (pc := 0) (i := 1) rfl rfl dX11_connection_0 ?_
  refine ev_if_lt (pc := 1) (tgt := 15) (by decide) dX11_connection_1 (fun c1 => ?_) (fun c1 => ?_)
  · replace h0 := qi_t h0 c1
    exact ev_weak (qL_n (qL_n (qL_n qL_nil))) (e_X11_connection_15 hb h0)
  · replace h0 := qi_f h0 c1
    refine ev_iload_n (pc := 4) (i := 1) rfl rfl dX11_connection_4 ?_
    refine ev_aload_n (pc := 5) (i := 0) rfl rfl rfl dX11_connection_5 ?_
    obtain ⟨g3, h4⟩ := qk_el h0; clear h0
    obtain ⟨b5, e6, h7⟩ := qP_el h4; clear h4
    refine xv_getP (pc := 6) fn_805 (isb_el g3) e6 gw_287 dX11_connection_6 ?_
    obtain ⟨g8, h9⟩ := qk_el h7; clear h7
    obtain ⟨x10, e11, h12⟩ := qv_el h9; clear h9
    refine xv_getIv (pc := 9) fn_601 (isb_el g8) e11 gw_239 dX11_connection_9 ?_
    refine ev_ic_lt (pc := 12) (tgt := 25) (by decide) dX11_connection_12 (fun c13 => ?_) (fun c13 => ?_)
    · replace h12 := qi_t h12 c13
      refine ev_iload_n (pc := 25) (i := 2) rfl rfl dX11_connection_25 ?_
      refine ev_if_lt (pc := 26) (tgt := 35) (by decide) dX11_connection_26 (fun c15 => ?_) (fun c15 => ?_)
      · replace h12 := qi_t h12 c15
        exact ev_weak (qL_n (qL_n (qL_n qL_nil))) (e_X11_connection_35 hb h12)
      · replace h12 := qi_f h12 c15
        refine ev_iload_n (pc := 29) (i := 2) rfl rfl dX11_connection_29 ?_
        refine ev_bipush (pc := 30) (v := 8) (by decide) dX11_connection_30 ?_
        refine ev_ic_le (pc := 32) (tgt := 45) (by decide) dX11_connection_32 (fun c17 => ?_) (fun c17 => ?_)
        · replace h12 := qi_t h12 c17
          refine ev_aload_n (pc := 45) (i := 0) rfl rfl rfl dX11_connection_45 ?_
          obtain ⟨b19, e20, h21⟩ := qP_el h12; clear h12
          refine xv_getP (pc := 46) fn_805 (isb_el g3) e20 gw_287 dX11_connection_46 ?_
          refine ev_iload_n (pc := 49) (i := 1) rfl rfl dX11_connection_49 ?_
          obtain ⟨g22, h23⟩ := qk_el h21; clear h21
          obtain ⟨x24, S25, e26, h27⟩ := qc_el h23; clear h23
          refine xv_callV (pc := 50) (st := []) (as := [.int p0]) (v := (some (.ref x24))) (S' := S25) ok_X8_at (e_X8_at e26) (isb_el g22) (by decide) rfl (Nat.le_of_ble_eq_true rfl) rfl gw_1110 dX11_connection_50 ?_
          refine ev_iload_n (pc := 53) (i := 2) rfl rfl dX11_connection_53 ?_
          obtain ⟨g28, h29⟩ := qk_el h27; clear h27
          obtain ⟨x30, S31, e32, h33⟩ := qc_el h29; clear h29
          refine xv_callV (pc := 54) (st := []) (as := [.int p1]) (v := (some (.int x30))) (S' := S31) ok_X0_part (e_X0_part e32) (isb_el g28) (by decide) rfl (Nat.le_of_ble_eq_true rfl) rfl gw_1111 dX11_connection_54 ?_
          cases h33
          exact ev_ireturn (pc := 57) rfl (nar_int _) rfl dX11_connection_57
        · replace h12 := qi_f h12 c17
          exact ev_weak (qL_n (qL_n (qL_n qL_nil))) (e_X11_connection_35 hb h12)
    · replace h12 := qi_f h12 c13
      exact ev_weak (qL_n (qL_n (qL_n qL_nil))) (e_X11_connection_15 hb h12)
theorem dL_connection_0 : decode cL_connection 0 = .ok (.aload_n 3, 1) := by decide +kernel
theorem dL_connection_1 : decode cL_connection 1 = .ok (.iconst 0, 1) := by decide +kernel
theorem dL_connection_2 : decode cL_connection 2 = .ok (.aload_n 0, 1) := by decide +kernel
theorem dL_connection_3 : decode cL_connection 3 = .ok (.iload_n 1, 1) := by decide +kernel
theorem dL_connection_4 : decode cL_connection 4 = .ok (.iload_n 2, 1) := by decide +kernel
theorem dL_connection_5 : decode cL_connection 5 = .ok (.invokevirtual 61, 3) := by decide +kernel
theorem dL_connection_8 : decode cL_connection 8 = .ok (.i2l, 1) := by decide +kernel
theorem dL_connection_9 : decode cL_connection 9 = .ok (.lastore, 1) := by decide +kernel
theorem dL_connection_10 : decode cL_connection 10 = .ok (.goto 7, 3) := by decide +kernel
theorem dL_connection_13 : decode cL_connection 13 = .ok (.astore 4, 2) := by decide +kernel
theorem dL_connection_15 : decode cL_connection 15 = .ok (.iconst 1, 1) := by decide +kernel
theorem dL_connection_16 : decode cL_connection 16 = .ok (.ireturn, 1) := by decide +kernel
theorem dL_connection_17 : decode cL_connection 17 = .ok (.iconst 0, 1) := by decide +kernel
theorem dL_connection_18 : decode cL_connection 18 = .ok (.ireturn, 1) := by decide +kernel
theorem e_L_connection {X : gk_X} {F : Nat} {k j : Nat} {S : gk_S} {p0 : Nat} {p1 : Int32} {p2 : Int32} {p3 : Nat} {r : (Int32 × gk_S)} (hb : r.1 = 0 ∨ (1 ≤ k ∧ 6 ≤ j)) (h0 : f_L_connection F S p0 p1 p2 p3 = some r) : EvM X m_L_connection 7 k j [.ref p0, .int p1, .int p2, .ref p3] S (qRI r) := by
  unfold f_L_connection at h0
  refine ev_methodH (by decide +kernel) (by decide) rfl (Nat.le_of_ble_eq_true rfl) ?_
  show EvW X m_L_connection 7 k j 0 [some (.ref p0), some (.int p1), some (.int p2), some (.ref p3), none] [] S _
  refine ev_aload_n (pc := 0) (i := 3) rfl rfl rfl dL_connection_0 ?_
  refine ev_iconst (pc := 1) (v := 0) (by decide) dL_connection_1 ?_
  refine ev_aload_n (pc := 2) (i := 0) rfl rfl rfl dL_connection_2 ?_
  refine ev_iload_n (pc := 3) (i := 1) rfl rfl dL_connection_3 ?_
  refine ev_iload_n (pc := 4) (i := 2) rfl rfl dL_connection_4 ?_
  obtain ⟨g1, h2⟩ := qk_el h0; clear h0
  rcases qh_el h2 with ⟨E7, T8, e5, h6⟩ | ⟨x3, S4, e5, h6⟩
  · by_cases c9 : E7 = gx_E
    · replace h6 := qi_t h6 c9; subst c9
      have hb9 : 1 ≤ k ∧ 6 ≤ j := by cases h6; exact hb.resolve_left (show ¬ (1 : Int32) = 0 by decide)
      refine yv_catV (pc := 5) (st := [.int 0, .ref p3]) (as := [.int p1, .int p2]) (i9 := 4) (len9 := 2) (pre := []) (suf := []) (x := (0, 10, 13, 22)) (name := "java/util/NoSuchElementException") ok_X11_connection (e_X11_connection (k := k) (j := j) (fun _ _ => hb9) e5) (isb_el g1) rfl (by intro z hz; cases hz) (by decide) (by decide) (by decide) gw_672 (by decide +kernel) (.inl ⟨rfl, rfl⟩) (by decide) rfl (gl9 rfl) (by decide) rfl (Nat.le_of_ble_eq_true rfl) rfl gw_1104 dL_connection_5 dL_connection_13 ?_
      refine ev_iconst (pc := 15) (v := 1) (by decide) dL_connection_15 ?_
      exact ev_ireturn (pc := 16) rfl rfl (by cases h6; rfl) dL_connection_16
    replace h6 := qi_f h6 c9
    cases h6
  clear h2
  refine xv_callV (pc := 5) (st := [.int 0, .ref p3]) (as := [.int p1, .int p2]) (v := (some (.int x3))) (S' := S4) ok_X11_connection (e_X11_connection (k := 0) (j := 0) qb_inl e5) (isb_el g1) (by decide) rfl (Nat.le_of_ble_eq_true rfl) rfl gw_1104 dL_connection_5 ?_
  refine ev_i2l (pc := 8)  dL_connection_8 ?_
  obtain ⟨g10, h11⟩ := qk_el h6; clear h6
  obtain ⟨g12, h13⟩ := qk_el h11; clear h11
  obtain ⟨S14, e15, h16⟩ := qv_el h13; clear h13
  refine yv_last (pc := 9) (isb_el g10) (inb_el g12) e15 dL_connection_9 ?_
  refine ev_goto (pc := 10) (tgt := 17) (by decide) dL_connection_10 ?_
  refine ev_iconst (pc := 17) (v := 0) (by decide) dL_connection_17 ?_
  exact ev_ireturn (pc := 18) rfl (nar_int _) (qRI_eq h16) dL_connection_18
theorem dX2_at_0 : decode cX2_at 0 = .ok (.iload_n 1, 1) := by decide +kernel
theorem dX2_at_1 : decode cX2_at 1 = .ok (.ifCond .lt 33, 3) := by decide +kernel
theorem dX2_at_4 : decode cX2_at 4 = .ok (.iload_n 1, 1) := by decide +kernel
theorem dX2_at_5 : decode cX2_at 5 = .ok (.aload_n 0, 1) := by decide +kernel
theorem dX2_at_6 : decode cX2_at 6 = .ok (.getfield 13, 3) := by decide +kernel
theorem dX2_at_9 : decode cX2_at 9 = .ok (.if_icmp .ge 25, 3) := by decide +kernel
theorem dX2_at_12 : decode cX2_at 12 = .ok (.iload_n 1, 1) := by decide +kernel
theorem dX2_at_13 : decode cX2_at 13 = .ok (.aload_n 0, 1) := by decide +kernel
theorem dX2_at_14 : decode cX2_at 14 = .ok (.getfield 7, 3) := by decide +kernel
theorem dX2_at_17 : decode cX2_at 17 = .ok (.arraylength, 1) := by decide +kernel
theorem dX2_at_18 : decode cX2_at 18 = .ok (.if_icmp .ge 16, 3) := by decide +kernel
theorem dX2_at_21 : decode cX2_at 21 = .ok (.aload_n 0, 1) := by decide +kernel
theorem dX2_at_22 : decode cX2_at 22 = .ok (.getfield 7, 3) := by decide +kernel
theorem dX2_at_25 : decode cX2_at 25 = .ok (.iload_n 1, 1) := by decide +kernel
theorem dX2_at_26 : decode cX2_at 26 = .ok (.baload, 1) := by decide +kernel
theorem dX2_at_27 : decode cX2_at 27 = .ok (.sipush 255, 3) := by decide +kernel
theorem dX2_at_30 : decode cX2_at 30 = .ok (.iand, 1) := by decide +kernel
theorem dX2_at_31 : decode cX2_at 31 = .ok (.goto 4, 3) := by decide +kernel
theorem dX2_at_34 : decode cX2_at 34 = .ok (.iconst 0, 1) := by decide +kernel
theorem dX2_at_35 : decode cX2_at 35 = .ok (.ireturn, 1) := by decide +kernel
theorem e_X2_at {X : gk_X} {F : Nat} {S : gk_S} {a : Nat} {p0 : Int32} {r : (Int32 × gk_S)} (h0 : f_X2_at F S a p0 = some r) : EvM X m_X2_at 1 0 0 [.ref a, .int p0] S (qRI r) := by
  unfold f_X2_at at h0
  refine ev_method (by decide +kernel) rfl rfl (Nat.le_of_ble_eq_true rfl) ?_
  show EvW X m_X2_at 1 0 0 0 [some (.ref a), some (.int p0)] [] S _
  refine ev_iload_n (pc := 0) (i := 1) rfl rfl dX2_at_0 ?_
  refine ev_if_lt (pc := 1) (tgt := 34) (by decide) dX2_at_1 (fun c1 => ?_) (fun c1 => ?_)
  · replace h0 := qi_t h0 c1
    refine ev_iconst (pc := 34) (v := 0) (by decide) dX2_at_34 ?_
    exact ev_ireturn (pc := 35) rfl (nar_int _) (qRI_eq h0) dX2_at_35
  · replace h0 := qi_f h0 c1
    refine ev_iload_n (pc := 4) (i := 1) rfl rfl dX2_at_4 ?_
    refine ev_aload_n (pc := 5) (i := 0) rfl rfl rfl dX2_at_5 ?_
    obtain ⟨g3, h4⟩ := qk_el h0; clear h0
    obtain ⟨x5, e6, h7⟩ := qv_el h4; clear h4
    refine xv_getIv (pc := 6) fn_101 (isb_el g3) e6 gw_40 dX2_at_6 ?_
    refine ev_ic_ge (pc := 9) (tgt := 34) (by decide) dX2_at_9 (fun c8 => ?_) (fun c8 => ?_)
    · replace h7 := qi_t h7 c8
      refine ev_iconst (pc := 34) (v := 0) (by decide) dX2_at_34 ?_
      exact ev_ireturn (pc := 35) rfl (nar_int _) (qRI_eq h7) dX2_at_35
    · replace h7 := qi_f h7 c8
      refine ev_iload_n (pc := 12) (i := 1) rfl rfl dX2_at_12 ?_
      refine ev_aload_n (pc := 13) (i := 0) rfl rfl rfl dX2_at_13 ?_
      obtain ⟨b10, e11, h12⟩ := qP_el h7; clear h7
      refine xv_getP (pc := 14) fn_100 (isb_el g3) e11 gw_39 dX2_at_14 ?_
      obtain ⟨g13, h14⟩ := qk_el h12; clear h12
      obtain ⟨n15, e16, h17⟩ := qv_el h14; clear h14
      refine xv_alen (pc := 17) (n := n15) (isb_el g13) (by decide) e16 dX2_at_17 ?_
      refine ev_ic_ge (pc := 18) (tgt := 34) (by decide) dX2_at_18 (fun c18 => ?_) (fun c18 => ?_)
      · replace h17 := qi_t h17 c18
        refine ev_iconst (pc := 34) (v := 0) (by decide) dX2_at_34 ?_
        exact ev_ireturn (pc := 35) rfl (nar_int _) (qRI_eq h17) dX2_at_35
      · replace h17 := qi_f h17 c18
        refine ev_aload_n (pc := 21) (i := 0) rfl rfl rfl dX2_at_21 ?_
        obtain ⟨b20, e21, h22⟩ := qP_el h17; clear h17
        refine xv_getP (pc := 22) fn_100 (isb_el g3) e21 gw_39 dX2_at_22 ?_
        refine ev_iload_n (pc := 25) (i := 1) rfl rfl dX2_at_25 ?_
        obtain ⟨g23, h24⟩ := qk_el h22; clear h22
        obtain ⟨g25, h26⟩ := qk_el h24; clear h24
        obtain ⟨x27, e28, h29⟩ := qv_el h26; clear h26
        refine yv_bald (pc := 26) (isb_el g23) (inb_el g25) e28 dX2_at_26 ?_
        refine ev_sipush (pc := 27) (v := 255) (by decide) dX2_at_27 ?_
        refine ev_iand (pc := 30)  dX2_at_30 ?_
        refine ev_goto (pc := 31) (tgt := 35) (by decide) dX2_at_31 ?_
        exact ev_ireturn (pc := 35) rfl (nar_int _) (qRI_eq h29) dX2_at_35
theorem dX10_isFirst_0 : decode cX10_isFirst 0 = .ok (.iload_n 0, 1) := by decide +kernel
theorem dX10_isFirst_1 : decode cX10_isFirst 1 = .ok (.bipush 69, 2) := by decide +kernel
theorem dX10_isFirst_3 : decode cX10_isFirst 3 = .ok (.if_icmp .lt 13, 3) := by decide +kernel
theorem dX10_isFirst_6 : decode cX10_isFirst 6 = .ok (.iload_n 0, 1) := by decide +kernel
theorem dX10_isFirst_7 : decode cX10_isFirst 7 = .ok (.bipush 79, 2) := by decide +kernel
theorem dX10_isFirst_9 : decode cX10_isFirst 9 = .ok (.if_icmp .gt 7, 3) := by decide +kernel
theorem dX10_isFirst_12 : decode cX10_isFirst 12 = .ok (.iconst 1, 1) := by decide +kernel
theorem dX10_isFirst_13 : decode cX10_isFirst 13 = .ok (.goto 4, 3) := by decide +kernel
theorem dX10_isFirst_16 : decode cX10_isFirst 16 = .ok (.iconst 0, 1) := by decide +kernel
theorem dX10_isFirst_17 : decode cX10_isFirst 17 = .ok (.ireturn, 1) := by decide +kernel
theorem e_X10_isFirst {X : gk_X} {F : Nat} {S : gk_S} {p0 : Int32} {r : (Int32 × gk_S)} (h0 : f_X10_isFirst F S p0 = some r) : EvM X m_X10_isFirst 1 0 0 [.int p0] S (qRI r) := by
  unfold f_X10_isFirst at h0
  refine ev_method (by decide +kernel) rfl rfl (Nat.le_of_ble_eq_true rfl) ?_
  show EvW X m_X10_isFirst 1 0 0 0 [some (.int p0)] [] S _
  refine ev_iload_n (pc := 0) (i := 0) rfl rfl dX10_isFirst_0 ?_
  refine ev_bipush (pc := 1) (v := 69) (by decide) dX10_isFirst_1 ?_
  refine ev_ic_lt (pc := 3) (tgt := 16) (by decide) dX10_isFirst_3 (fun c1 => ?_) (fun c1 => ?_)
  · replace h0 := qi_t h0 c1
    refine ev_iconst (pc := 16) (v := 0) (by decide) dX10_isFirst_16 ?_
    exact ev_ireturn (pc := 17) rfl rfl (qRI_eq h0) dX10_isFirst_17
  · replace h0 := qi_f h0 c1
    refine ev_iload_n (pc := 6) (i := 0) rfl rfl dX10_isFirst_6 ?_
    refine ev_bipush (pc := 7) (v := 79) (by decide) dX10_isFirst_7 ?_
    refine ev_ic_gt (pc := 9) (tgt := 16) (by decide) dX10_isFirst_9 (fun c3 => ?_) (fun c3 => ?_)
    · replace h0 := qi_t h0 c3
      refine ev_iconst (pc := 16) (v := 0) (by decide) dX10_isFirst_16 ?_
      exact ev_ireturn (pc := 17) rfl rfl (qRI_eq h0) dX10_isFirst_17
    · replace h0 := qi_f h0 c3
      refine ev_iconst (pc := 12) (v := 1) (by decide) dX10_isFirst_12 ?_
      refine ev_goto (pc := 13) (tgt := 17) (by decide) dX10_isFirst_13 ?_
      exact ev_ireturn (pc := 17) rfl rfl (qRI_eq h0) dX10_isFirst_17
theorem dX10_headerOf_0 : decode cX10_headerOf 0 = .ok (.iload_n 0, 1) := by decide +kernel
theorem dX10_headerOf_1 : decode cX10_headerOf 1 = .ok (.bipush 15, 2) := by decide +kernel
theorem dX10_headerOf_3 : decode cX10_headerOf 3 = .ok (.iand, 1) := by decide +kernel
theorem dX10_headerOf_4 : decode cX10_headerOf 4 = .ok (.iconst 4, 1) := by decide +kernel
theorem dX10_headerOf_5 : decode cX10_headerOf 5 = .ok (.imul, 1) := by decide +kernel
theorem dX10_headerOf_6 : decode cX10_headerOf 6 = .ok (.ireturn, 1) := by decide +kernel
theorem e_X10_headerOf {X : gk_X} {F : Nat} {S : gk_S} {p0 : Int32} {r : (Int32 × gk_S)} (h0 : f_X10_headerOf F S p0 = some r) : EvM X m_X10_headerOf 1 0 0 [.int p0] S (qRI r) := by
  unfold f_X10_headerOf at h0
  refine ev_method (by decide +kernel) rfl rfl (Nat.le_of_ble_eq_true rfl) ?_
  show EvW X m_X10_headerOf 1 0 0 0 [some (.int p0)] [] S _
  refine ev_iload_n (pc := 0) (i := 0) rfl rfl dX10_headerOf_0 ?_
  refine ev_bipush (pc := 1) (v := 15) (by decide) dX10_headerOf_1 ?_
  refine ev_iand (pc := 3)  dX10_headerOf_3 ?_
  refine ev_iconst (pc := 4) (v := 4) (by decide) dX10_headerOf_4 ?_
  refine ev_imul (pc := 5)  dX10_headerOf_5 ?_
  exact ev_ireturn (pc := 6) rfl (nar_int _) (qRI_eq h0) dX10_headerOf_6
theorem dX2_pair_0 : decode cX2_pair 0 = .ok (.aload_n 0, 1) := by decide +kernel
theorem dX2_pair_1 : decode cX2_pair 1 = .ok (.iload_n 1, 1) := by decide +kernel
theorem dX2_pair_2 : decode cX2_pair 2 = .ok (.invokevirtual 17, 3) := by decide +kernel
theorem dX2_pair_5 : decode cX2_pair 5 = .ok (.sipush 256, 3) := by decide +kernel
theorem dX2_pair_8 : decode cX2_pair 8 = .ok (.imul, 1) := by decide +kernel
theorem dX2_pair_9 : decode cX2_pair 9 = .ok (.aload_n 0, 1) := by decide +kernel
theorem dX2_pair_10 : decode cX2_pair 10 = .ok (.iload_n 1, 1) := by decide +kernel
theorem dX2_pair_11 : decode cX2_pair 11 = .ok (.iconst 1, 1) := by decide +kernel
theorem dX2_pair_12 : decode cX2_pair 12 = .ok (.iadd, 1) := by decide +kernel
theorem dX2_pair_13 : decode cX2_pair 13 = .ok (.invokevirtual 17, 3) := by decide +kernel
theorem dX2_pair_16 : decode cX2_pair 16 = .ok (.iadd, 1) := by decide +kernel
theorem dX2_pair_17 : decode cX2_pair 17 = .ok (.ireturn, 1) := by decide +kernel
theorem e_X2_pair {X : gk_X} {F : Nat} {S : gk_S} {a : Nat} {p0 : Int32} {r : (Int32 × gk_S)} (h0 : f_X2_pair F S a p0 = some r) : EvM X m_X2_pair 2 0 0 [.ref a, .int p0] S (qRI r) := by
  unfold f_X2_pair at h0
  refine ev_method (by decide +kernel) rfl rfl (Nat.le_of_ble_eq_true rfl) ?_
  show EvW X m_X2_pair 2 0 0 0 [some (.ref a), some (.int p0)] [] S _
  refine ev_aload_n (pc := 0) (i := 0) rfl rfl rfl dX2_pair_0 ?_
  refine ev_iload_n (pc := 1) (i := 1) rfl rfl dX2_pair_1 ?_
  obtain ⟨g1, h2⟩ := qk_el h0; clear h0
  obtain ⟨x3, S4, e5, h6⟩ := qc_el h2; clear h2
  refine xv_callV (pc := 2) (st := []) (as := [.int p0]) (v := (some (.int x3))) (S' := S4) ok_X2_at (e_X2_at e5) (isb_el g1) (by decide) rfl (Nat.le_of_ble_eq_true rfl) rfl gw_1034 dX2_pair_2 ?_
  refine ev_sipush (pc := 5) (v := 256) (by decide) dX2_pair_5 ?_
  refine ev_imul (pc := 8)  dX2_pair_8 ?_
  refine ev_aload_n (pc := 9) (i := 0) rfl rfl rfl dX2_pair_9 ?_
  refine ev_iload_n (pc := 10) (i := 1) rfl rfl dX2_pair_10 ?_
  refine ev_iconst (pc := 11) (v := 1) (by decide) dX2_pair_11 ?_
  refine ev_iadd (pc := 12)  dX2_pair_12 ?_
  obtain ⟨g7, h8⟩ := qk_el h6; clear h6
  obtain ⟨x9, S10, e11, h12⟩ := qc_el h8; clear h8
  refine xv_callV (pc := 13) (st := [.int (x3 * 256)]) (as := [.int (p0 + 1)]) (v := (some (.int x9))) (S' := S10) ok_X2_at (e_X2_at e11) (isb_el g7) (by decide) rfl (Nat.le_of_ble_eq_true rfl) rfl gw_1034 dX2_pair_13 ?_
  refine ev_iadd (pc := 16)  dX2_pair_16 ?_
  exact ev_ireturn (pc := 17) rfl (nar_int _) (qRI_eq h12) dX2_pair_17
theorem dX10_sum_0 : decode cX10_sum 0 = .ok (.iload_n 3, 1) := by decide +kernel
theorem dX10_sum_1 : decode cX10_sum 1 = .ok (.istore 4, 2) := by decide +kernel
theorem dX10_sum_3 : decode cX10_sum 3 = .ok (.iload_n 1, 1) := by decide +kernel
theorem dX10_sum_4 : decode cX10_sum 4 = .ok (.istore 5, 2) := by decide +kernel
theorem dX10_sum_6 : decode cX10_sum 6 = .ok (.iload 5, 2) := by decide +kernel
theorem dX10_sum_8 : decode cX10_sum 8 = .ok (.iload_n 2, 1) := by decide +kernel
theorem dX10_sum_9 : decode cX10_sum 9 = .ok (.if_icmp .ge 45, 3) := by decide +kernel
theorem dX10_sum_12 : decode cX10_sum 12 = .ok (.iload 4, 2) := by decide +kernel
theorem dX10_sum_14 : decode cX10_sum 14 = .ok (.aload_n 0, 1) := by decide +kernel
theorem dX10_sum_15 : decode cX10_sum 15 = .ok (.iload 5, 2) := by decide +kernel
theorem dX10_sum_17 : decode cX10_sum 17 = .ok (.invokevirtual 17, 3) := by decide +kernel
theorem dX10_sum_20 : decode cX10_sum 20 = .ok (.sipush 256, 3) := by decide +kernel
theorem dX10_sum_23 : decode cX10_sum 23 = .ok (.imul, 1) := by decide +kernel
theorem dX10_sum_24 : decode cX10_sum 24 = .ok (.iload 5, 2) := by decide +kernel
theorem dX10_sum_26 : decode cX10_sum 26 = .ok (.iconst 1, 1) := by decide +kernel
theorem dX10_sum_27 : decode cX10_sum 27 = .ok (.iadd, 1) := by decide +kernel
theorem dX10_sum_28 : decode cX10_sum 28 = .ok (.iload_n 2, 1) := by decide +kernel
theorem dX10_sum_29 : decode cX10_sum 29 = .ok (.if_icmp .ge 14, 3) := by decide +kernel
theorem dX10_sum_32 : decode cX10_sum 32 = .ok (.aload_n 0, 1) := by decide +kernel
theorem dX10_sum_33 : decode cX10_sum 33 = .ok (.iload 5, 2) := by decide +kernel
theorem dX10_sum_35 : decode cX10_sum 35 = .ok (.iconst 1, 1) := by decide +kernel
theorem dX10_sum_36 : decode cX10_sum 36 = .ok (.iadd, 1) := by decide +kernel
theorem dX10_sum_37 : decode cX10_sum 37 = .ok (.invokevirtual 17, 3) := by decide +kernel
theorem dX10_sum_40 : decode cX10_sum 40 = .ok (.goto 4, 3) := by decide +kernel
theorem dX10_sum_43 : decode cX10_sum 43 = .ok (.iconst 0, 1) := by decide +kernel
theorem dX10_sum_44 : decode cX10_sum 44 = .ok (.iadd, 1) := by decide +kernel
theorem dX10_sum_45 : decode cX10_sum 45 = .ok (.iadd, 1) := by decide +kernel
theorem dX10_sum_46 : decode cX10_sum 46 = .ok (.istore 4, 2) := by decide +kernel
theorem dX10_sum_48 : decode cX10_sum 48 = .ok (.iinc 5 2, 3) := by decide +kernel
theorem dX10_sum_51 : decode cX10_sum 51 = .ok (.goto (-45), 3) := by decide +kernel
theorem dX10_sum_54 : decode cX10_sum 54 = .ok (.iload 4, 2) := by decide +kernel
theorem dX10_sum_56 : decode cX10_sum 56 = .ok (.ldc 35, 2) := by decide +kernel
theorem dX10_sum_58 : decode cX10_sum 58 = .ok (.iand, 1) := by decide +kernel
theorem dX10_sum_59 : decode cX10_sum 59 = .ok (.iload 4, 2) := by decide +kernel
theorem dX10_sum_61 : decode cX10_sum 61 = .ok (.bipush 16, 2) := by decide +kernel
theorem dX10_sum_63 : decode cX10_sum 63 = .ok (.iushr, 1) := by decide +kernel
theorem dX10_sum_64 : decode cX10_sum 64 = .ok (.iadd, 1) := by decide +kernel
theorem dX10_sum_65 : decode cX10_sum 65 = .ok (.istore 5, 2) := by decide +kernel
theorem dX10_sum_67 : decode cX10_sum 67 = .ok (.iload 5, 2) := by decide +kernel
theorem dX10_sum_69 : decode cX10_sum 69 = .ok (.ldc 35, 2) := by decide +kernel
theorem dX10_sum_71 : decode cX10_sum 71 = .ok (.iand, 1) := by decide +kernel
theorem dX10_sum_72 : decode cX10_sum 72 = .ok (.iload 5, 2) := by decide +kernel
theorem dX10_sum_74 : decode cX10_sum 74 = .ok (.bipush 16, 2) := by decide +kernel
theorem dX10_sum_76 : decode cX10_sum 76 = .ok (.iushr, 1) := by decide +kernel
theorem dX10_sum_77 : decode cX10_sum 77 = .ok (.iadd, 1) := by decide +kernel
theorem dX10_sum_78 : decode cX10_sum 78 = .ok (.ireturn, 1) := by decide +kernel
theorem e_X10_sum_6 {X : gk_X} {F : Nat} : ∀ (n : Nat) (l0 : Nat) (l2 : Int32) (l4 : Int32) (l5 : Int32) (S : gk_S) (r : (Int32 × gk_S)), f_X10_sum_6 F n l0 l2 l4 l5 S = some r → EvW X m_X10_sum 2 0 0 6 [some (.ref l0), none, some (.int l2), none, some (.int l4), some (.int l5)] [] S (qRI r) := by
  intro n
  induction n with
  | zero => intro l0 l2 l4 l5 S r h0; rw [f_X10_sum_6] at h0; cases h0
  | succ n ih =>
    intro l0 l2 l4 l5 S r h0; rw [f_X10_sum_6] at h0
    refine ev_iload (pc := 6) (i := 5) rfl dX10_sum_6 ?_
    refine ev_iload_n (pc := 8) (i := 2) rfl rfl dX10_sum_8 ?_
    refine ev_ic_ge (pc := 9) (tgt := 54) (by decide) dX10_sum_9 (fun c1 => ?_) (fun c1 => ?_)
    · replace h0 := qi_t h0 c1
      refine ev_iload (pc := 54) (i := 4) rfl dX10_sum_54 ?_
      refine ev_ldc (pc := 56) (v := 65535) gw_1038 dX10_sum_56 ?_
      refine ev_iand (pc := 58)  dX10_sum_58 ?_
      refine ev_iload (pc := 59) (i := 4) rfl dX10_sum_59 ?_
      refine ev_bipush (pc := 61) (v := 16) (by decide) dX10_sum_61 ?_
      refine ev_iushr (pc := 63)  dX10_sum_63 ?_
      obtain ⟨x3, e4, h5⟩ := qv_el h0; clear h0
      refine xv_top e4 ?_
      refine ev_iadd (pc := 64)  dX10_sum_64 ?_
      refine ev_istore (pc := 65) (L' := [some (.ref l0), none, some (.int l2), none, some (.int l4), some (.int ((l4 &&& 65535) + x3))]) (i := 5) (by decide) rfl rfl dX10_sum_65 ?_
      refine ev_iload (pc := 67) (i := 5) rfl dX10_sum_67 ?_
      refine ev_ldc (pc := 69) (v := 65535) gw_1038 dX10_sum_69 ?_
      refine ev_iand (pc := 71)  dX10_sum_71 ?_
      refine ev_iload (pc := 72) (i := 5) rfl dX10_sum_72 ?_
      refine ev_bipush (pc := 74) (v := 16) (by decide) dX10_sum_74 ?_
      refine ev_iushr (pc := 76)  dX10_sum_76 ?_
      obtain ⟨x6, e7, h8⟩ := qv_el h5; clear h5
      refine xv_top e7 ?_
      refine ev_iadd (pc := 77)  dX10_sum_77 ?_
      exact ev_ireturn (pc := 78) rfl (nar_int _) (qRI_eq h8) dX10_sum_78
    · replace h0 := qi_f h0 c1
      refine ev_iload (pc := 12) (i := 4) rfl dX10_sum_12 ?_
      refine ev_aload_n (pc := 14) (i := 0) rfl rfl rfl dX10_sum_14 ?_
      refine ev_iload (pc := 15) (i := 5) rfl dX10_sum_15 ?_
      obtain ⟨g9, h10⟩ := qk_el h0; clear h0
      obtain ⟨x11, S12, e13, h14⟩ := qc_el h10; clear h10
      refine xv_callV (pc := 17) (st := [.int l4]) (as := [.int l5]) (v := (some (.int x11))) (S' := S12) ok_X2_at (e_X2_at e13) (isb_el g9) (by decide) rfl (Nat.le_of_ble_eq_true rfl) rfl gw_1023 dX10_sum_17 ?_
      refine ev_sipush (pc := 20) (v := 256) (by decide) dX10_sum_20 ?_
      refine ev_imul (pc := 23)  dX10_sum_23 ?_
      refine ev_iload (pc := 24) (i := 5) rfl dX10_sum_24 ?_
      refine ev_iconst (pc := 26) (v := 1) (by decide) dX10_sum_26 ?_
      refine ev_iadd (pc := 27)  dX10_sum_27 ?_
      refine ev_iload_n (pc := 28) (i := 2) rfl rfl dX10_sum_28 ?_
      refine ev_ic_ge (pc := 29) (tgt := 43) (by decide) dX10_sum_29 (fun c15 => ?_) (fun c15 => ?_)
      · replace h14 := qi_t h14 c15
        refine ev_iconst (pc := 43) (v := 0) (by decide) dX10_sum_43 ?_
        refine ev_iadd (pc := 44)  dX10_sum_44 ?_
        refine ev_iadd (pc := 45)  dX10_sum_45 ?_
        refine ev_istore (pc := 46) (L' := [some (.ref l0), none, some (.int l2), none, some (.int (l4 + ((x11 * 256) + 0))), some (.int l5)]) (i := 4) (by decide) rfl rfl dX10_sum_46 ?_
        refine ev_iinc (pc := 48) (L' := [some (.ref l0), none, some (.int l2), none, some (.int (l4 + ((x11 * 256) + 0))), some (.int (l5 + 2))]) (i := 5) (v := (l5 + 2)) rfl rfl (by decide) rfl rfl dX10_sum_48 ?_
        refine ev_goto (pc := 51) (tgt := 6) (by decide) dX10_sum_51 ?_
        exact (ev_weak (qL_s (qL_n (qL_s (qL_n (qL_s (qL_s qL_nil)))))) (ih _ _ _ _ _ _ h14))
      · replace h14 := qi_f h14 c15
        refine ev_aload_n (pc := 32) (i := 0) rfl rfl rfl dX10_sum_32 ?_
        refine ev_iload (pc := 33) (i := 5) rfl dX10_sum_33 ?_
        refine ev_iconst (pc := 35) (v := 1) (by decide) dX10_sum_35 ?_
        refine ev_iadd (pc := 36)  dX10_sum_36 ?_
        obtain ⟨g17, h18⟩ := qk_el h14; clear h14
        obtain ⟨x19, S20, e21, h22⟩ := qc_el h18; clear h18
        refine xv_callV (pc := 37) (st := [.int (x11 * 256), .int l4]) (as := [.int (l5 + 1)]) (v := (some (.int x19))) (S' := S20) ok_X2_at (e_X2_at e21) (isb_el g17) (by decide) rfl (Nat.le_of_ble_eq_true rfl) rfl gw_1023 dX10_sum_37 ?_
        refine ev_goto (pc := 40) (tgt := 44) (by decide) dX10_sum_40 ?_
        refine ev_iadd (pc := 44)  dX10_sum_44 ?_
        refine ev_iadd (pc := 45)  dX10_sum_45 ?_
        obtain ⟨x23, e24, h25⟩ := qv_el h22; clear h22
        refine xv_top e24 ?_
        refine ev_istore (pc := 46) (L' := [some (.ref l0), none, some (.int l2), none, some (.int x23), some (.int l5)]) (i := 4) (by decide) rfl rfl dX10_sum_46 ?_
        refine ev_iinc (pc := 48) (L' := [some (.ref l0), none, some (.int l2), none, some (.int x23), some (.int (l5 + 2))]) (i := 5) (v := (l5 + 2)) rfl rfl (by decide) rfl rfl dX10_sum_48 ?_
        refine ev_goto (pc := 51) (tgt := 6) (by decide) dX10_sum_51 ?_
        exact (ev_weak (qL_s (qL_n (qL_s (qL_n (qL_s (qL_s qL_nil)))))) (ih _ _ _ _ _ _ h25))
theorem e_X10_sum {X : gk_X} {F : Nat} {S : gk_S} {p0 : Nat} {p1 : Int32} {p2 : Int32} {p3 : Int32} {r : (Int32 × gk_S)} (h0 : f_X10_sum F S p0 p1 p2 p3 = some r) : EvM X m_X10_sum 2 0 0 [.ref p0, .int p1, .int p2, .int p3] S (qRI r) := by
  unfold f_X10_sum at h0
  refine ev_method (by decide +kernel) rfl rfl (Nat.le_of_ble_eq_true rfl) ?_
  show EvW X m_X10_sum 2 0 0 0 [some (.ref p0), some (.int p1), some (.int p2), some (.int p3), none, none] [] S _
  refine ev_iload_n (pc := 0) (i := 3) rfl rfl dX10_sum_0 ?_
  refine ev_istore (pc := 1) (L' := [some (.ref p0), some (.int p1), some (.int p2), some (.int p3), some (.int p3), none]) (i := 4) (by decide) rfl rfl dX10_sum_1 ?_
  refine ev_iload_n (pc := 3) (i := 1) rfl rfl dX10_sum_3 ?_
  refine ev_istore (pc := 4) (L' := [some (.ref p0), some (.int p1), some (.int p2), some (.int p3), some (.int p3), some (.int p1)]) (i := 5) (by decide) rfl rfl dX10_sum_4 ?_
  exact ev_weak (qL_s (qL_n (qL_s (qL_n (qL_s (qL_s qL_nil)))))) (e_X10_sum_6 F _ _ _ _ _ _ h0)
theorem dX10_isWhole_0 : decode cX10_isWhole 0 = .ok (.aload_n 0, 1) := by decide +kernel
theorem dX10_isWhole_1 : decode cX10_isWhole 1 = .ok (.getfield 9, 3) := by decide +kernel
theorem dX10_isWhole_4 : decode cX10_isWhole 4 = .ok (.iload_n 1, 1) := by decide +kernel
theorem dX10_isWhole_5 : decode cX10_isWhole 5 = .ok (.isub, 1) := by decide +kernel
theorem dX10_isWhole_6 : decode cX10_isWhole 6 = .ok (.istore_n 2, 1) := by decide +kernel
theorem dX10_isWhole_7 : decode cX10_isWhole 7 = .ok (.aload_n 0, 1) := by decide +kernel
theorem dX10_isWhole_8 : decode cX10_isWhole 8 = .ok (.bipush 9, 2) := by decide +kernel
theorem dX10_isWhole_10 : decode cX10_isWhole 10 = .ok (.invokevirtual 17, 3) := by decide +kernel
theorem dX10_isWhole_13 : decode cX10_isWhole 13 = .ok (.lookupswitch 105 #[(1, 93), (6, 35), (17, 70)], 35) := by decide +kernel
theorem dX10_isWhole_48 : decode cX10_isWhole 48 = .ok (.aload_n 0, 1) := by decide +kernel
theorem dX10_isWhole_49 : decode cX10_isWhole 49 = .ok (.iload_n 1, 1) := by decide +kernel
theorem dX10_isWhole_50 : decode cX10_isWhole 50 = .ok (.bipush 12, 2) := by decide +kernel
theorem dX10_isWhole_52 : decode cX10_isWhole 52 = .ok (.iadd, 1) := by decide +kernel
theorem dX10_isWhole_53 : decode cX10_isWhole 53 = .ok (.invokevirtual 17, 3) := by decide +kernel
theorem dX10_isWhole_56 : decode cX10_isWhole 56 = .ok (.iconst 4, 1) := by decide +kernel
theorem dX10_isWhole_57 : decode cX10_isWhole 57 = .ok (.ishr, 1) := by decide +kernel
theorem dX10_isWhole_58 : decode cX10_isWhole 58 = .ok (.istore_n 3, 1) := by decide +kernel
theorem dX10_isWhole_59 : decode cX10_isWhole 59 = .ok (.iload_n 2, 1) := by decide +kernel
theorem dX10_isWhole_60 : decode cX10_isWhole 60 = .ok (.bipush 20, 2) := by decide +kernel
theorem dX10_isWhole_62 : decode cX10_isWhole 62 = .ok (.if_icmp .lt 19, 3) := by decide +kernel
theorem dX10_isWhole_65 : decode cX10_isWhole 65 = .ok (.iload_n 3, 1) := by decide +kernel
theorem dX10_isWhole_66 : decode cX10_isWhole 66 = .ok (.iconst 5, 1) := by decide +kernel
theorem dX10_isWhole_67 : decode cX10_isWhole 67 = .ok (.if_icmp .lt 14, 3) := by decide +kernel
theorem dX10_isWhole_70 : decode cX10_isWhole 70 = .ok (.iload_n 3, 1) := by decide +kernel
theorem dX10_isWhole_71 : decode cX10_isWhole 71 = .ok (.iconst 4, 1) := by decide +kernel
theorem dX10_isWhole_72 : decode cX10_isWhole 72 = .ok (.imul, 1) := by decide +kernel
theorem dX10_isWhole_73 : decode cX10_isWhole 73 = .ok (.iload_n 2, 1) := by decide +kernel
theorem dX10_isWhole_74 : decode cX10_isWhole 74 = .ok (.if_icmp .gt 7, 3) := by decide +kernel
theorem dX10_isWhole_77 : decode cX10_isWhole 77 = .ok (.iconst 1, 1) := by decide +kernel
theorem dX10_isWhole_78 : decode cX10_isWhole 78 = .ok (.goto 4, 3) := by decide +kernel
theorem dX10_isWhole_81 : decode cX10_isWhole 81 = .ok (.iconst 0, 1) := by decide +kernel
theorem dX10_isWhole_82 : decode cX10_isWhole 82 = .ok (.ireturn, 1) := by decide +kernel
theorem dX10_isWhole_83 : decode cX10_isWhole 83 = .ok (.iload_n 2, 1) := by decide +kernel
theorem dX10_isWhole_84 : decode cX10_isWhole 84 = .ok (.bipush 8, 2) := by decide +kernel
theorem dX10_isWhole_86 : decode cX10_isWhole 86 = .ok (.if_icmp .lt 18, 3) := by decide +kernel
theorem dX10_isWhole_89 : decode cX10_isWhole 89 = .ok (.aload_n 0, 1) := by decide +kernel
theorem dX10_isWhole_90 : decode cX10_isWhole 90 = .ok (.iload_n 1, 1) := by decide +kernel
theorem dX10_isWhole_91 : decode cX10_isWhole 91 = .ok (.iconst 4, 1) := by decide +kernel
theorem dX10_isWhole_92 : decode cX10_isWhole 92 = .ok (.iadd, 1) := by decide +kernel
theorem dX10_isWhole_93 : decode cX10_isWhole 93 = .ok (.invokevirtual 28, 3) := by decide +kernel
theorem dX10_isWhole_96 : decode cX10_isWhole 96 = .ok (.iload_n 2, 1) := by decide +kernel
theorem dX10_isWhole_97 : decode cX10_isWhole 97 = .ok (.if_icmp .ne 7, 3) := by decide +kernel
theorem dX10_isWhole_100 : decode cX10_isWhole 100 = .ok (.iconst 1, 1) := by decide +kernel
theorem dX10_isWhole_101 : decode cX10_isWhole 101 = .ok (.goto 4, 3) := by decide +kernel
theorem dX10_isWhole_104 : decode cX10_isWhole 104 = .ok (.iconst 0, 1) := by decide +kernel
theorem dX10_isWhole_105 : decode cX10_isWhole 105 = .ok (.ireturn, 1) := by decide +kernel
theorem dX10_isWhole_106 : decode cX10_isWhole 106 = .ok (.iload_n 2, 1) := by decide +kernel
theorem dX10_isWhole_107 : decode cX10_isWhole 107 = .ok (.bipush 8, 2) := by decide +kernel
theorem dX10_isWhole_109 : decode cX10_isWhole 109 = .ok (.if_icmp .lt 7, 3) := by decide +kernel
theorem dX10_isWhole_112 : decode cX10_isWhole 112 = .ok (.iconst 1, 1) := by decide +kernel
theorem dX10_isWhole_113 : decode cX10_isWhole 113 = .ok (.goto 4, 3) := by decide +kernel
theorem dX10_isWhole_116 : decode cX10_isWhole 116 = .ok (.iconst 0, 1) := by decide +kernel
theorem dX10_isWhole_117 : decode cX10_isWhole 117 = .ok (.ireturn, 1) := by decide +kernel
theorem dX10_isWhole_118 : decode cX10_isWhole 118 = .ok (.iconst 1, 1) := by decide +kernel
theorem dX10_isWhole_119 : decode cX10_isWhole 119 = .ok (.ireturn, 1) := by decide +kernel
theorem e_X10_isWhole {X : gk_X} {F : Nat} {S : gk_S} {p0 : Nat} {p1 : Int32} {r : (Int32 × gk_S)} (h0 : f_X10_isWhole F S p0 p1 = some r) : EvM X m_X10_isWhole 3 0 0 [.ref p0, .int p1] S (qRI r) := by
  unfold f_X10_isWhole at h0
  refine ev_method (by decide +kernel) rfl rfl (Nat.le_of_ble_eq_true rfl) ?_
  show EvW X m_X10_isWhole 3 0 0 0 [some (.ref p0), some (.int p1), none, none] [] S _
  refine ev_aload_n (pc := 0) (i := 0) rfl rfl rfl dX10_isWhole_0 ?_
  obtain ⟨g1, h2⟩ := qk_el h0; clear h0
  obtain ⟨x3, e4, h5⟩ := qv_el h2; clear h2
  refine xv_getIv (pc := 1) fn_101 (isb_el g1) e4 gw_41 dX10_isWhole_1 ?_
  refine ev_iload_n (pc := 4) (i := 1) rfl rfl dX10_isWhole_4 ?_
  refine ev_isub (pc := 5)  dX10_isWhole_5 ?_
  refine ev_istore_n (pc := 6) (L' := [some (.ref p0), some (.int p1), some (.int (x3 - p1)), none]) (i := 2) rfl (by decide) rfl rfl dX10_isWhole_6 ?_
  refine ev_aload_n (pc := 7) (i := 0) rfl rfl rfl dX10_isWhole_7 ?_
  refine ev_bipush (pc := 8) (v := 9) (by decide) dX10_isWhole_8 ?_
  obtain ⟨x6, S7, e8, h9⟩ := qc_el h5; clear h5
  refine xv_callV (pc := 10) (st := []) (as := [.int 9]) (v := (some (.int x6))) (S' := S7) ok_X2_at (e_X2_at e8) (isb_el g1) (by decide) rfl (Nat.le_of_ble_eq_true rfl) rfl gw_1023 dX10_isWhole_10 ?_
  by_cases c10 : x6 = 1
  · refine ev_lookup (pc := 13) (off := 93) (tgt := 106) rfl (by rw [c10]; rfl) (by decide) dX10_isWhole_13 ?_
    replace h9 := qi_t h9 c10
    refine ev_iload_n (pc := 106) (i := 2) rfl rfl dX10_isWhole_106 ?_
    refine ev_bipush (pc := 107) (v := 8) (by decide) dX10_isWhole_107 ?_
    refine ev_ic_lt (pc := 109) (tgt := 116) (by decide) dX10_isWhole_109 (fun c11 => ?_) (fun c11 => ?_)
    · replace h9 := qi_t h9 c11
      refine ev_iconst (pc := 116) (v := 0) (by decide) dX10_isWhole_116 ?_
      exact ev_ireturn (pc := 117) rfl rfl (qRI_eq h9) dX10_isWhole_117
    · replace h9 := qi_f h9 c11
      refine ev_iconst (pc := 112) (v := 1) (by decide) dX10_isWhole_112 ?_
      refine ev_goto (pc := 113) (tgt := 117) (by decide) dX10_isWhole_113 ?_
      exact ev_ireturn (pc := 117) rfl rfl (qRI_eq h9) dX10_isWhole_117
  replace h9 := qi_f h9 c10
  by_cases c13 : x6 = 6
  · refine ev_lookup (pc := 13) (off := 35) (tgt := 48) rfl (by rw [c13]; rfl) (by decide) dX10_isWhole_13 ?_
    replace h9 := qi_t h9 c13
    refine ev_aload_n (pc := 48) (i := 0) rfl rfl rfl dX10_isWhole_48 ?_
    refine ev_iload_n (pc := 49) (i := 1) rfl rfl dX10_isWhole_49 ?_
    refine ev_bipush (pc := 50) (v := 12) (by decide) dX10_isWhole_50 ?_
    refine ev_iadd (pc := 52)  dX10_isWhole_52 ?_
    obtain ⟨g14, h15⟩ := qk_el h9; clear h9
    obtain ⟨x16, S17, e18, h19⟩ := qc_el h15; clear h15
    refine xv_callV (pc := 53) (st := []) (as := [.int (p1 + 12)]) (v := (some (.int x16))) (S' := S17) ok_X2_at (e_X2_at e18) (isb_el g14) (by decide) rfl (Nat.le_of_ble_eq_true rfl) rfl gw_1023 dX10_isWhole_53 ?_
    refine ev_iconst (pc := 56) (v := 4) (by decide) dX10_isWhole_56 ?_
    refine ev_ishr (pc := 57)  dX10_isWhole_57 ?_
    obtain ⟨x20, e21, h22⟩ := qv_el h19; clear h19
    refine xv_top e21 ?_
    refine ev_istore_n (pc := 58) (L' := [some (.ref p0), some (.int p1), some (.int (x3 - p1)), some (.int x20)]) (i := 3) rfl (by decide) rfl rfl dX10_isWhole_58 ?_
    refine ev_iload_n (pc := 59) (i := 2) rfl rfl dX10_isWhole_59 ?_
    refine ev_bipush (pc := 60) (v := 20) (by decide) dX10_isWhole_60 ?_
    refine ev_ic_lt (pc := 62) (tgt := 81) (by decide) dX10_isWhole_62 (fun c23 => ?_) (fun c23 => ?_)
    · replace h22 := qi_t h22 c23
      refine ev_iconst (pc := 81) (v := 0) (by decide) dX10_isWhole_81 ?_
      exact ev_ireturn (pc := 82) rfl rfl (qRI_eq h22) dX10_isWhole_82
    · replace h22 := qi_f h22 c23
      refine ev_iload_n (pc := 65) (i := 3) rfl rfl dX10_isWhole_65 ?_
      refine ev_iconst (pc := 66) (v := 5) (by decide) dX10_isWhole_66 ?_
      refine ev_ic_lt (pc := 67) (tgt := 81) (by decide) dX10_isWhole_67 (fun c25 => ?_) (fun c25 => ?_)
      · replace h22 := qi_t h22 c25
        refine ev_iconst (pc := 81) (v := 0) (by decide) dX10_isWhole_81 ?_
        exact ev_ireturn (pc := 82) rfl rfl (qRI_eq h22) dX10_isWhole_82
      · replace h22 := qi_f h22 c25
        refine ev_iload_n (pc := 70) (i := 3) rfl rfl dX10_isWhole_70 ?_
        refine ev_iconst (pc := 71) (v := 4) (by decide) dX10_isWhole_71 ?_
        refine ev_imul (pc := 72)  dX10_isWhole_72 ?_
        refine ev_iload_n (pc := 73) (i := 2) rfl rfl dX10_isWhole_73 ?_
        refine ev_ic_gt (pc := 74) (tgt := 81) (by decide) dX10_isWhole_74 (fun c27 => ?_) (fun c27 => ?_)
        · replace h22 := qi_t h22 c27
          refine ev_iconst (pc := 81) (v := 0) (by decide) dX10_isWhole_81 ?_
          exact ev_ireturn (pc := 82) rfl rfl (qRI_eq h22) dX10_isWhole_82
        · replace h22 := qi_f h22 c27
          refine ev_iconst (pc := 77) (v := 1) (by decide) dX10_isWhole_77 ?_
          refine ev_goto (pc := 78) (tgt := 82) (by decide) dX10_isWhole_78 ?_
          exact ev_ireturn (pc := 82) rfl rfl (qRI_eq h22) dX10_isWhole_82
  replace h9 := qi_f h9 c13
  by_cases c29 : x6 = 17
  · refine ev_lookup (pc := 13) (off := 70) (tgt := 83) rfl (by rw [c29]; rfl) (by decide) dX10_isWhole_13 ?_
    replace h9 := qi_t h9 c29
    refine ev_iload_n (pc := 83) (i := 2) rfl rfl dX10_isWhole_83 ?_
    refine ev_bipush (pc := 84) (v := 8) (by decide) dX10_isWhole_84 ?_
    refine ev_ic_lt (pc := 86) (tgt := 104) (by decide) dX10_isWhole_86 (fun c30 => ?_) (fun c30 => ?_)
    · replace h9 := qi_t h9 c30
      refine ev_iconst (pc := 104) (v := 0) (by decide) dX10_isWhole_104 ?_
      exact ev_ireturn (pc := 105) rfl rfl (qRI_eq h9) dX10_isWhole_105
    · replace h9 := qi_f h9 c30
      refine ev_aload_n (pc := 89) (i := 0) rfl rfl rfl dX10_isWhole_89 ?_
      refine ev_iload_n (pc := 90) (i := 1) rfl rfl dX10_isWhole_90 ?_
      refine ev_iconst (pc := 91) (v := 4) (by decide) dX10_isWhole_91 ?_
      refine ev_iadd (pc := 92)  dX10_isWhole_92 ?_
      obtain ⟨g32, h33⟩ := qk_el h9; clear h9
      obtain ⟨x34, S35, e36, h37⟩ := qc_el h33; clear h33
      refine xv_callV (pc := 93) (st := []) (as := [.int (p1 + 4)]) (v := (some (.int x34))) (S' := S35) ok_X2_pair (e_X2_pair e36) (isb_el g32) (by decide) rfl (Nat.le_of_ble_eq_true rfl) rfl gw_1030 dX10_isWhole_93 ?_
      refine ev_iload_n (pc := 96) (i := 2) rfl rfl dX10_isWhole_96 ?_
      refine ev_ic_ne (pc := 97) (tgt := 104) (by decide) dX10_isWhole_97 (fun c38 => ?_) (fun c38 => ?_)
      · replace h37 := qi_f h37 c38
        refine ev_iconst (pc := 104) (v := 0) (by decide) dX10_isWhole_104 ?_
        exact ev_ireturn (pc := 105) rfl rfl (qRI_eq h37) dX10_isWhole_105
      · replace h37 := qi_t h37 c38
        refine ev_iconst (pc := 100) (v := 1) (by decide) dX10_isWhole_100 ?_
        refine ev_goto (pc := 101) (tgt := 105) (by decide) dX10_isWhole_101 ?_
        exact ev_ireturn (pc := 105) rfl rfl (qRI_eq h37) dX10_isWhole_105
  replace h9 := qi_f h9 c29
  refine ev_lookup (pc := 13) (off := 105) (tgt := 118) rfl (lo_ne (ti_ne c10 rfl) (lo_ne (ti_ne c13 rfl) (lo_ne (ti_ne c29 rfl) lo_nil))) (by decide) dX10_isWhole_13 ?_
  refine ev_iconst (pc := 118) (v := 1) (by decide) dX10_isWhole_118 ?_
  exact ev_ireturn (pc := 119) rfl rfl (qRI_eq h9) dX10_isWhole_119
theorem dX10_hasBody_0 : decode cX10_hasBody 0 = .ok (.iload_n 0, 1) := by decide +kernel
theorem dX10_hasBody_1 : decode cX10_hasBody 1 = .ok (.bipush 6, 2) := by decide +kernel
theorem dX10_hasBody_3 : decode cX10_hasBody 3 = .ok (.if_icmp .eq 14, 3) := by decide +kernel
theorem dX10_hasBody_6 : decode cX10_hasBody 6 = .ok (.iload_n 0, 1) := by decide +kernel
theorem dX10_hasBody_7 : decode cX10_hasBody 7 = .ok (.bipush 17, 2) := by decide +kernel
theorem dX10_hasBody_9 : decode cX10_hasBody 9 = .ok (.if_icmp .eq 8, 3) := by decide +kernel
theorem dX10_hasBody_12 : decode cX10_hasBody 12 = .ok (.iload_n 0, 1) := by decide +kernel
theorem dX10_hasBody_13 : decode cX10_hasBody 13 = .ok (.iconst 1, 1) := by decide +kernel
theorem dX10_hasBody_14 : decode cX10_hasBody 14 = .ok (.if_icmp .ne 7, 3) := by decide +kernel
theorem dX10_hasBody_17 : decode cX10_hasBody 17 = .ok (.iconst 1, 1) := by decide +kernel
theorem dX10_hasBody_18 : decode cX10_hasBody 18 = .ok (.goto 4, 3) := by decide +kernel
theorem dX10_hasBody_21 : decode cX10_hasBody 21 = .ok (.iconst 0, 1) := by decide +kernel
theorem dX10_hasBody_22 : decode cX10_hasBody 22 = .ok (.ireturn, 1) := by decide +kernel
theorem e_X10_hasBody {X : gk_X} {F : Nat} {S : gk_S} {p0 : Int32} {r : (Int32 × gk_S)} (h0 : f_X10_hasBody F S p0 = some r) : EvM X m_X10_hasBody 1 0 0 [.int p0] S (qRI r) := by
  unfold f_X10_hasBody at h0
  refine ev_method (by decide +kernel) rfl rfl (Nat.le_of_ble_eq_true rfl) ?_
  show EvW X m_X10_hasBody 1 0 0 0 [some (.int p0)] [] S _
  refine ev_iload_n (pc := 0) (i := 0) rfl rfl dX10_hasBody_0 ?_
  refine ev_bipush (pc := 1) (v := 6) (by decide) dX10_hasBody_1 ?_
  refine ev_ic_eq (pc := 3) (tgt := 17) (by decide) dX10_hasBody_3 (fun c1 => ?_) (fun c1 => ?_)
  · replace h0 := qi_t h0 c1
    refine ev_iconst (pc := 17) (v := 1) (by decide) dX10_hasBody_17 ?_
    refine ev_goto (pc := 18) (tgt := 22) (by decide) dX10_hasBody_18 ?_
    exact ev_ireturn (pc := 22) rfl rfl (qRI_eq h0) dX10_hasBody_22
  · replace h0 := qi_f h0 c1
    refine ev_iload_n (pc := 6) (i := 0) rfl rfl dX10_hasBody_6 ?_
    refine ev_bipush (pc := 7) (v := 17) (by decide) dX10_hasBody_7 ?_
    refine ev_ic_eq (pc := 9) (tgt := 17) (by decide) dX10_hasBody_9 (fun c3 => ?_) (fun c3 => ?_)
    · replace h0 := qi_t h0 c3
      refine ev_iconst (pc := 17) (v := 1) (by decide) dX10_hasBody_17 ?_
      refine ev_goto (pc := 18) (tgt := 22) (by decide) dX10_hasBody_18 ?_
      exact ev_ireturn (pc := 22) rfl rfl (qRI_eq h0) dX10_hasBody_22
    · replace h0 := qi_f h0 c3
      refine ev_iload_n (pc := 12) (i := 0) rfl rfl dX10_hasBody_12 ?_
      refine ev_iconst (pc := 13) (v := 1) (by decide) dX10_hasBody_13 ?_
      refine ev_ic_ne (pc := 14) (tgt := 21) (by decide) dX10_hasBody_14 (fun c5 => ?_) (fun c5 => ?_)
      · replace h0 := qi_f h0 c5
        refine ev_iconst (pc := 21) (v := 0) (by decide) dX10_hasBody_21 ?_
        exact ev_ireturn (pc := 22) rfl rfl (qRI_eq h0) dX10_hasBody_22
      · replace h0 := qi_t h0 c5
        refine ev_iconst (pc := 17) (v := 1) (by decide) dX10_hasBody_17 ?_
        refine ev_goto (pc := 18) (tgt := 22) (by decide) dX10_hasBody_18 ?_
        exact ev_ireturn (pc := 22) rfl rfl (qRI_eq h0) dX10_hasBody_22
theorem dX10_seed_0 : decode cX10_seed 0 = .ok (.aload_n 0, 1) := by decide +kernel
theorem dX10_seed_1 : decode cX10_seed 1 = .ok (.bipush 9, 2) := by decide +kernel
theorem dX10_seed_3 : decode cX10_seed 3 = .ok (.invokevirtual 17, 3) := by decide +kernel
theorem dX10_seed_6 : decode cX10_seed 6 = .ok (.istore_n 2, 1) := by decide +kernel
theorem dX10_seed_7 : decode cX10_seed 7 = .ok (.iload_n 2, 1) := by decide +kernel
theorem dX10_seed_8 : decode cX10_seed 8 = .ok (.bipush 6, 2) := by decide +kernel
theorem dX10_seed_10 : decode cX10_seed 10 = .ok (.if_icmp .eq 11, 3) := by decide +kernel
theorem dX10_seed_13 : decode cX10_seed 13 = .ok (.iload_n 2, 1) := by decide +kernel
theorem dX10_seed_14 : decode cX10_seed 14 = .ok (.bipush 17, 2) := by decide +kernel
theorem dX10_seed_16 : decode cX10_seed 16 = .ok (.if_icmp .eq 5, 3) := by decide +kernel
theorem dX10_seed_19 : decode cX10_seed 19 = .ok (.iconst 0, 1) := by decide +kernel
theorem dX10_seed_20 : decode cX10_seed 20 = .ok (.ireturn, 1) := by decide +kernel
theorem dX10_seed_21 : decode cX10_seed 21 = .ok (.aload_n 0, 1) := by decide +kernel
theorem dX10_seed_22 : decode cX10_seed 22 = .ok (.bipush 12, 2) := by decide +kernel
theorem dX10_seed_24 : decode cX10_seed 24 = .ok (.invokevirtual 28, 3) := by decide +kernel
theorem dX10_seed_27 : decode cX10_seed 27 = .ok (.aload_n 0, 1) := by decide +kernel
theorem dX10_seed_28 : decode cX10_seed 28 = .ok (.bipush 14, 2) := by decide +kernel
theorem dX10_seed_30 : decode cX10_seed 30 = .ok (.invokevirtual 28, 3) := by decide +kernel
theorem dX10_seed_33 : decode cX10_seed 33 = .ok (.iadd, 1) := by decide +kernel
theorem dX10_seed_34 : decode cX10_seed 34 = .ok (.aload_n 0, 1) := by decide +kernel
theorem dX10_seed_35 : decode cX10_seed 35 = .ok (.bipush 16, 2) := by decide +kernel
theorem dX10_seed_37 : decode cX10_seed 37 = .ok (.invokevirtual 28, 3) := by decide +kernel
theorem dX10_seed_40 : decode cX10_seed 40 = .ok (.iadd, 1) := by decide +kernel
theorem dX10_seed_41 : decode cX10_seed 41 = .ok (.aload_n 0, 1) := by decide +kernel
theorem dX10_seed_42 : decode cX10_seed 42 = .ok (.bipush 18, 2) := by decide +kernel
theorem dX10_seed_44 : decode cX10_seed 44 = .ok (.invokevirtual 28, 3) := by decide +kernel
theorem dX10_seed_47 : decode cX10_seed 47 = .ok (.iadd, 1) := by decide +kernel
theorem dX10_seed_48 : decode cX10_seed 48 = .ok (.iload_n 2, 1) := by decide +kernel
theorem dX10_seed_49 : decode cX10_seed 49 = .ok (.iadd, 1) := by decide +kernel
theorem dX10_seed_50 : decode cX10_seed 50 = .ok (.aload_n 0, 1) := by decide +kernel
theorem dX10_seed_51 : decode cX10_seed 51 = .ok (.getfield 9, 3) := by decide +kernel
theorem dX10_seed_54 : decode cX10_seed 54 = .ok (.iadd, 1) := by decide +kernel
theorem dX10_seed_55 : decode cX10_seed 55 = .ok (.iload_n 1, 1) := by decide +kernel
theorem dX10_seed_56 : decode cX10_seed 56 = .ok (.isub, 1) := by decide +kernel
theorem dX10_seed_57 : decode cX10_seed 57 = .ok (.ireturn, 1) := by decide +kernel
theorem e_X10_seed_21 {X : gk_X} {F : Nat} {l0 : Nat} {l1 : Int32} {l2 : Int32} {S : gk_S} {r : (Int32 × gk_S)} (h0 : f_X10_seed_21 F l0 l1 l2 S = some r) : EvW X m_X10_seed 3 0 0 21 [some (.ref l0), some (.int l1), some (.int l2)] [] S (qRI r) := by
  unfold f_X10_seed_21 at h0
  refine ev_aload_n (pc := 21) (i := 0) rfl rfl rfl dX10_seed_21 ?_
  refine ev_bipush (pc := 22) (v := 12) (by decide) dX10_seed_22 ?_
  obtain ⟨g9, h10⟩ := qk_el h0; clear h0
  obtain ⟨x11, S12, e13, h14⟩ := qc_el h10; clear h10
  refine xv_callV (pc := 24) (st := []) (as := [.int 12]) (v := (some (.int x11))) (S' := S12) ok_X2_pair (e_X2_pair e13) (isb_el g9) (by decide) rfl (Nat.le_of_ble_eq_true rfl) rfl gw_1030 dX10_seed_24 ?_
  refine ev_aload_n (pc := 27) (i := 0) rfl rfl rfl dX10_seed_27 ?_
  refine ev_bipush (pc := 28) (v := 14) (by decide) dX10_seed_28 ?_
  obtain ⟨g15, h16⟩ := qk_el h14; clear h14
  obtain ⟨x17, S18, e19, h20⟩ := qc_el h16; clear h16
  refine xv_callV (pc := 30) (st := [.int x11]) (as := [.int 14]) (v := (some (.int x17))) (S' := S18) ok_X2_pair (e_X2_pair e19) (isb_el g15) (by decide) rfl (Nat.le_of_ble_eq_true rfl) rfl gw_1030 dX10_seed_30 ?_
  refine ev_iadd (pc := 33)  dX10_seed_33 ?_
  refine ev_aload_n (pc := 34) (i := 0) rfl rfl rfl dX10_seed_34 ?_
  refine ev_bipush (pc := 35) (v := 16) (by decide) dX10_seed_35 ?_
  obtain ⟨g21, h22⟩ := qk_el h20; clear h20
  obtain ⟨x23, S24, e25, h26⟩ := qc_el h22; clear h22
  refine xv_callV (pc := 37) (st := [.int (x11 + x17)]) (as := [.int 16]) (v := (some (.int x23))) (S' := S24) ok_X2_pair (e_X2_pair e25) (isb_el g21) (by decide) rfl (Nat.le_of_ble_eq_true rfl) rfl gw_1030 dX10_seed_37 ?_
  refine ev_iadd (pc := 40)  dX10_seed_40 ?_
  refine ev_aload_n (pc := 41) (i := 0) rfl rfl rfl dX10_seed_41 ?_
  refine ev_bipush (pc := 42) (v := 18) (by decide) dX10_seed_42 ?_
  obtain ⟨g27, h28⟩ := qk_el h26; clear h26
  obtain ⟨x29, S30, e31, h32⟩ := qc_el h28; clear h28
  refine xv_callV (pc := 44) (st := [.int ((x11 + x17) + x23)]) (as := [.int 18]) (v := (some (.int x29))) (S' := S30) ok_X2_pair (e_X2_pair e31) (isb_el g27) (by decide) rfl (Nat.le_of_ble_eq_true rfl) rfl gw_1030 dX10_seed_44 ?_
  refine ev_iadd (pc := 47)  dX10_seed_47 ?_
  refine ev_iload_n (pc := 48) (i := 2) rfl rfl dX10_seed_48 ?_
  refine ev_iadd (pc := 49)  dX10_seed_49 ?_
  refine ev_aload_n (pc := 50) (i := 0) rfl rfl rfl dX10_seed_50 ?_
  obtain ⟨g33, h34⟩ := qk_el h32; clear h32
  obtain ⟨x35, e36, h37⟩ := qv_el h34; clear h34
  refine xv_getIv (pc := 51) fn_101 (isb_el g33) e36 gw_41 dX10_seed_51 ?_
  refine ev_iadd (pc := 54)  dX10_seed_54 ?_
  refine ev_iload_n (pc := 55) (i := 1) rfl rfl dX10_seed_55 ?_
  refine ev_isub (pc := 56)  dX10_seed_56 ?_
  exact ev_ireturn (pc := 57) rfl (nar_int _) (qRI_eq h37) dX10_seed_57
theorem e_X10_seed {X : gk_X} {F : Nat} {S : gk_S} {p0 : Nat} {p1 : Int32} {r : (Int32 × gk_S)} (h0 : f_X10_seed F S p0 p1 = some r) : EvM X m_X10_seed 3 0 0 [.ref p0, .int p1] S (qRI r) := by
  unfold f_X10_seed at h0
  refine ev_method (by decide +kernel) rfl rfl (Nat.le_of_ble_eq_true rfl) ?_
  show EvW X m_X10_seed 3 0 0 0 [some (.ref p0), some (.int p1), none] [] S _
  refine ev_aload_n (pc := 0) (i := 0) rfl rfl rfl dX10_seed_0 ?_
  refine ev_bipush (pc := 1) (v := 9) (by decide) dX10_seed_1 ?_
  obtain ⟨g1, h2⟩ := qk_el h0; clear h0
  obtain ⟨x3, S4, e5, h6⟩ := qc_el h2; clear h2
  refine xv_callV (pc := 3) (st := []) (as := [.int 9]) (v := (some (.int x3))) (S' := S4) ok_X2_at (e_X2_at e5) (isb_el g1) (by decide) rfl (Nat.le_of_ble_eq_true rfl) rfl gw_1023 dX10_seed_3 ?_
  refine ev_istore_n (pc := 6) (L' := [some (.ref p0), some (.int p1), some (.int x3)]) (i := 2) rfl (by decide) rfl rfl dX10_seed_6 ?_
  refine ev_iload_n (pc := 7) (i := 2) rfl rfl dX10_seed_7 ?_
  refine ev_bipush (pc := 8) (v := 6) (by decide) dX10_seed_8 ?_
  refine ev_ic_eq (pc := 10) (tgt := 21) (by decide) dX10_seed_10 (fun c7 => ?_) (fun c7 => ?_)
  · replace h6 := qi_t h6 c7
    exact ev_weak (qL_s (qL_s (qL_s qL_nil))) (e_X10_seed_21 h6)
  · replace h6 := qi_f h6 c7
    refine ev_iload_n (pc := 13) (i := 2) rfl rfl dX10_seed_13 ?_
    refine ev_bipush (pc := 14) (v := 17) (by decide) dX10_seed_14 ?_
    refine ev_ic_eq (pc := 16) (tgt := 21) (by decide) dX10_seed_16 (fun c38 => ?_) (fun c38 => ?_)
    · replace h6 := qi_t h6 c38
      exact ev_weak (qL_s (qL_s (qL_s qL_nil))) (e_X10_seed_21 h6)
    · replace h6 := qi_f h6 c38
      refine ev_iconst (pc := 19) (v := 0) (by decide) dX10_seed_19 ?_
      exact ev_ireturn (pc := 20) rfl (nar_int _) (qRI_eq h6) dX10_seed_20
theorem dX10_isSummed_0 : decode cX10_isSummed 0 = .ok (.aload_n 0, 1) := by decide +kernel
theorem dX10_isSummed_1 : decode cX10_isSummed 1 = .ok (.bipush 9, 2) := by decide +kernel
theorem dX10_isSummed_3 : decode cX10_isSummed 3 = .ok (.invokevirtual 17, 3) := by decide +kernel
theorem dX10_isSummed_6 : decode cX10_isSummed 6 = .ok (.istore_n 2, 1) := by decide +kernel
theorem dX10_isSummed_7 : decode cX10_isSummed 7 = .ok (.iload_n 2, 1) := by decide +kernel
theorem dX10_isSummed_8 : decode cX10_isSummed 8 = .ok (.invokestatic 56, 3) := by decide +kernel
theorem dX10_isSummed_11 : decode cX10_isSummed 11 = .ok (.ifCond .eq 20, 3) := by decide +kernel
theorem dX10_isSummed_14 : decode cX10_isSummed 14 = .ok (.iload_n 2, 1) := by decide +kernel
theorem dX10_isSummed_15 : decode cX10_isSummed 15 = .ok (.bipush 17, 2) := by decide +kernel
theorem dX10_isSummed_17 : decode cX10_isSummed 17 = .ok (.if_icmp .ne 16, 3) := by decide +kernel
theorem dX10_isSummed_20 : decode cX10_isSummed 20 = .ok (.aload_n 0, 1) := by decide +kernel
theorem dX10_isSummed_21 : decode cX10_isSummed 21 = .ok (.iload_n 1, 1) := by decide +kernel
theorem dX10_isSummed_22 : decode cX10_isSummed 22 = .ok (.bipush 6, 2) := by decide +kernel
theorem dX10_isSummed_24 : decode cX10_isSummed 24 = .ok (.iadd, 1) := by decide +kernel
theorem dX10_isSummed_25 : decode cX10_isSummed 25 = .ok (.invokevirtual 28, 3) := by decide +kernel
theorem dX10_isSummed_28 : decode cX10_isSummed 28 = .ok (.ifCond .ne 5, 3) := by decide +kernel
theorem dX10_isSummed_31 : decode cX10_isSummed 31 = .ok (.iconst 1, 1) := by decide +kernel
theorem dX10_isSummed_32 : decode cX10_isSummed 32 = .ok (.ireturn, 1) := by decide +kernel
theorem dX10_isSummed_33 : decode cX10_isSummed 33 = .ok (.aload_n 0, 1) := by decide +kernel
theorem dX10_isSummed_34 : decode cX10_isSummed 34 = .ok (.iload_n 1, 1) := by decide +kernel
theorem dX10_isSummed_35 : decode cX10_isSummed 35 = .ok (.aload_n 0, 1) := by decide +kernel
theorem dX10_isSummed_36 : decode cX10_isSummed 36 = .ok (.getfield 9, 3) := by decide +kernel
theorem dX10_isSummed_39 : decode cX10_isSummed 39 = .ok (.aload_n 0, 1) := by decide +kernel
theorem dX10_isSummed_40 : decode cX10_isSummed 40 = .ok (.iload_n 1, 1) := by decide +kernel
theorem dX10_isSummed_41 : decode cX10_isSummed 41 = .ok (.invokestatic 88, 3) := by decide +kernel
theorem dX10_isSummed_44 : decode cX10_isSummed 44 = .ok (.invokestatic 31, 3) := by decide +kernel
theorem dX10_isSummed_47 : decode cX10_isSummed 47 = .ok (.ldc 35, 2) := by decide +kernel
theorem dX10_isSummed_49 : decode cX10_isSummed 49 = .ok (.if_icmp .ne 7, 3) := by decide +kernel
theorem dX10_isSummed_52 : decode cX10_isSummed 52 = .ok (.iconst 1, 1) := by decide +kernel
theorem dX10_isSummed_53 : decode cX10_isSummed 53 = .ok (.goto 4, 3) := by decide +kernel
theorem dX10_isSummed_56 : decode cX10_isSummed 56 = .ok (.iconst 0, 1) := by decide +kernel
theorem dX10_isSummed_57 : decode cX10_isSummed 57 = .ok (.ireturn, 1) := by decide +kernel
theorem e_X10_isSummed_33 {X : gk_X} {F : Nat} {l0 : Nat} {l1 : Int32} {S : gk_S} {r : (Int32 × gk_S)} (h0 : f_X10_isSummed_33 F l0 l1 S = some r) : EvW X m_X10_isSummed 4 0 0 33 [some (.ref l0), some (.int l1), none] [] S (qRI r) := by
  unfold f_X10_isSummed_33 at h0
  refine ev_aload_n (pc := 33) (i := 0) rfl rfl rfl dX10_isSummed_33 ?_
  refine ev_iload_n (pc := 34) (i := 1) rfl rfl dX10_isSummed_34 ?_
  refine ev_aload_n (pc := 35) (i := 0) rfl rfl rfl dX10_isSummed_35 ?_
  obtain ⟨g15, h16⟩ := qk_el h0; clear h0
  obtain ⟨x17, e18, h19⟩ := qv_el h16; clear h16
  refine xv_getIv (pc := 36) fn_101 (isb_el g15) e18 gw_41 dX10_isSummed_36 ?_
  refine ev_aload_n (pc := 39) (i := 0) rfl rfl rfl dX10_isSummed_39 ?_
  refine ev_iload_n (pc := 40) (i := 1) rfl rfl dX10_isSummed_40 ?_
  obtain ⟨x20, S21, e22, h23⟩ := qc_el h19; clear h19
  refine xv_callS (pc := 41) (st := [.int x17, .int l1, .ref l0]) (as := [.ref l0, .int l1]) (v := (some (.int x20))) (S' := S21) ok_X10_seed (e_X10_seed e22) (by decide) rfl (Nat.le_of_ble_eq_true rfl) rfl gw_1048 dX10_isSummed_41 ?_
  obtain ⟨x24, S25, e26, h27⟩ := qc_el h23; clear h23
  refine xv_callS (pc := 44) (st := []) (as := [.ref l0, .int l1, .int x17, .int x20]) (v := (some (.int x24))) (S' := S25) ok_X10_sum (e_X10_sum e26) (by decide) rfl (Nat.le_of_ble_eq_true rfl) rfl gw_1035 dX10_isSummed_44 ?_
  refine ev_ldc (pc := 47) (v := 65535) gw_1038 dX10_isSummed_47 ?_
  refine ev_ic_ne (pc := 49) (tgt := 56) (by decide) dX10_isSummed_49 (fun c28 => ?_) (fun c28 => ?_)
  · replace h27 := qi_f h27 c28
    refine ev_iconst (pc := 56) (v := 0) (by decide) dX10_isSummed_56 ?_
    exact ev_ireturn (pc := 57) rfl rfl (qRI_eq h27) dX10_isSummed_57
  · replace h27 := qi_t h27 c28
    refine ev_iconst (pc := 52) (v := 1) (by decide) dX10_isSummed_52 ?_
    refine ev_goto (pc := 53) (tgt := 57) (by decide) dX10_isSummed_53 ?_
    exact ev_ireturn (pc := 57) rfl rfl (qRI_eq h27) dX10_isSummed_57
theorem e_X10_isSummed {X : gk_X} {F : Nat} {S : gk_S} {p0 : Nat} {p1 : Int32} {r : (Int32 × gk_S)} (h0 : f_X10_isSummed F S p0 p1 = some r) : EvM X m_X10_isSummed 4 0 0 [.ref p0, .int p1] S (qRI r) := by
  unfold f_X10_isSummed at h0
  refine ev_method (by decide +kernel) rfl rfl (Nat.le_of_ble_eq_true rfl) ?_
  show EvW X m_X10_isSummed 4 0 0 0 [some (.ref p0), some (.int p1), none] [] S _
  refine ev_aload_n (pc := 0) (i := 0) rfl rfl rfl dX10_isSummed_0 ?_
  refine ev_bipush (pc := 1) (v := 9) (by decide) dX10_isSummed_1 ?_
  obtain ⟨g1, h2⟩ := qk_el h0; clear h0
  obtain ⟨x3, S4, e5, h6⟩ := qc_el h2; clear h2
  refine xv_callV (pc := 3) (st := []) (as := [.int 9]) (v := (some (.int x3))) (S' := S4) ok_X2_at (e_X2_at e5) (isb_el g1) (by decide) rfl (Nat.le_of_ble_eq_true rfl) rfl gw_1023 dX10_isSummed_3 ?_
  refine ev_istore_n (pc := 6) (L' := [some (.ref p0), some (.int p1), some (.int x3)]) (i := 2) rfl (by decide) rfl rfl dX10_isSummed_6 ?_
  refine ev_iload_n (pc := 7) (i := 2) rfl rfl dX10_isSummed_7 ?_
  obtain ⟨x7, S8, e9, h10⟩ := qc_el h6; clear h6
  refine xv_callS (pc := 8) (st := []) (as := [.int x3]) (v := (some (.int x7))) (S' := S8) ok_X10_hasBody (e_X10_hasBody e9) (by decide) rfl (Nat.le_of_ble_eq_true rfl) rfl gw_1045 dX10_isSummed_8 ?_
  refine ev_if_eq (pc := 11) (tgt := 31) (by decide) dX10_isSummed_11 (fun c11 => ?_) (fun c11 => ?_)
  · replace h10 := qi_t h10 c11
    refine ev_iconst (pc := 31) (v := 1) (by decide) dX10_isSummed_31 ?_
    exact ev_ireturn (pc := 32) rfl rfl (qRI_eq h10) dX10_isSummed_32
  · replace h10 := qi_f h10 c11
    refine ev_iload_n (pc := 14) (i := 2) rfl rfl dX10_isSummed_14 ?_
    refine ev_bipush (pc := 15) (v := 17) (by decide) dX10_isSummed_15 ?_
    refine ev_ic_ne (pc := 17) (tgt := 33) (by decide) dX10_isSummed_17 (fun c13 => ?_) (fun c13 => ?_)
    · replace h10 := qi_f h10 c13
      exact ev_weak (qL_s (qL_s (qL_n qL_nil))) (e_X10_isSummed_33 h10)
    · replace h10 := qi_t h10 c13
      refine ev_aload_n (pc := 20) (i := 0) rfl rfl rfl dX10_isSummed_20 ?_
      refine ev_iload_n (pc := 21) (i := 1) rfl rfl dX10_isSummed_21 ?_
      refine ev_bipush (pc := 22) (v := 6) (by decide) dX10_isSummed_22 ?_
      refine ev_iadd (pc := 24)  dX10_isSummed_24 ?_
      obtain ⟨g30, h31⟩ := qk_el h10; clear h10
      obtain ⟨x32, S33, e34, h35⟩ := qc_el h31; clear h31
      refine xv_callV (pc := 25) (st := []) (as := [.int (p1 + 6)]) (v := (some (.int x32))) (S' := S33) ok_X2_pair (e_X2_pair e34) (isb_el g30) (by decide) rfl (Nat.le_of_ble_eq_true rfl) rfl gw_1030 dX10_isSummed_25 ?_
      refine ev_if_ne (pc := 28) (tgt := 33) (by decide) dX10_isSummed_28 (fun c36 => ?_) (fun c36 => ?_)
      · replace h35 := qi_f h35 c36
        exact ev_weak (qL_s (qL_s (qL_n qL_nil))) (e_X10_isSummed_33 h35)
      · replace h35 := qi_t h35 c36
        refine ev_iconst (pc := 31) (v := 1) (by decide) dX10_isSummed_31 ?_
        exact ev_ireturn (pc := 32) rfl rfl (qRI_eq h35) dX10_isSummed_32
theorem dX10_faultOf_0 : decode cX10_faultOf 0 = .ok (.aload_n 0, 1) := by decide +kernel
theorem dX10_faultOf_1 : decode cX10_faultOf 1 = .ok (.getfield 9, 3) := by decide +kernel
theorem dX10_faultOf_4 : decode cX10_faultOf 4 = .ok (.bipush 20, 2) := by decide +kernel
theorem dX10_faultOf_6 : decode cX10_faultOf 6 = .ok (.if_icmp .ge 5, 3) := by decide +kernel
theorem dX10_faultOf_9 : decode cX10_faultOf 9 = .ok (.iconst 1, 1) := by decide +kernel
theorem dX10_faultOf_10 : decode cX10_faultOf 10 = .ok (.ireturn, 1) := by decide +kernel
theorem dX10_faultOf_11 : decode cX10_faultOf 11 = .ok (.aload_n 0, 1) := by decide +kernel
theorem dX10_faultOf_12 : decode cX10_faultOf 12 = .ok (.iconst 0, 1) := by decide +kernel
theorem dX10_faultOf_13 : decode cX10_faultOf 13 = .ok (.invokevirtual 17, 3) := by decide +kernel
theorem dX10_faultOf_16 : decode cX10_faultOf 16 = .ok (.invokestatic 21, 3) := by decide +kernel
theorem dX10_faultOf_19 : decode cX10_faultOf 19 = .ok (.ifCond .ne 5, 3) := by decide +kernel
theorem dX10_faultOf_22 : decode cX10_faultOf 22 = .ok (.iconst 2, 1) := by decide +kernel
theorem dX10_faultOf_23 : decode cX10_faultOf 23 = .ok (.ireturn, 1) := by decide +kernel
theorem dX10_faultOf_24 : decode cX10_faultOf 24 = .ok (.aload_n 0, 1) := by decide +kernel
theorem dX10_faultOf_25 : decode cX10_faultOf 25 = .ok (.iconst 0, 1) := by decide +kernel
theorem dX10_faultOf_26 : decode cX10_faultOf 26 = .ok (.invokevirtual 17, 3) := by decide +kernel
theorem dX10_faultOf_29 : decode cX10_faultOf 29 = .ok (.invokestatic 25, 3) := by decide +kernel
theorem dX10_faultOf_32 : decode cX10_faultOf 32 = .ok (.istore_n 1, 1) := by decide +kernel
theorem dX10_faultOf_33 : decode cX10_faultOf 33 = .ok (.aload_n 0, 1) := by decide +kernel
theorem dX10_faultOf_34 : decode cX10_faultOf 34 = .ok (.iconst 2, 1) := by decide +kernel
theorem dX10_faultOf_35 : decode cX10_faultOf 35 = .ok (.invokevirtual 28, 3) := by decide +kernel
theorem dX10_faultOf_38 : decode cX10_faultOf 38 = .ok (.aload_n 0, 1) := by decide +kernel
theorem dX10_faultOf_39 : decode cX10_faultOf 39 = .ok (.getfield 9, 3) := by decide +kernel
theorem dX10_faultOf_42 : decode cX10_faultOf 42 = .ok (.if_icmp .ne 11, 3) := by decide +kernel
theorem dX10_faultOf_45 : decode cX10_faultOf 45 = .ok (.aload_n 0, 1) := by decide +kernel
theorem dX10_faultOf_46 : decode cX10_faultOf 46 = .ok (.getfield 9, 3) := by decide +kernel
theorem dX10_faultOf_49 : decode cX10_faultOf 49 = .ok (.iload_n 1, 1) := by decide +kernel
theorem dX10_faultOf_50 : decode cX10_faultOf 50 = .ok (.if_icmp .ge 5, 3) := by decide +kernel
theorem dX10_faultOf_53 : decode cX10_faultOf 53 = .ok (.iconst 3, 1) := by decide +kernel
theorem dX10_faultOf_54 : decode cX10_faultOf 54 = .ok (.ireturn, 1) := by decide +kernel
theorem dX10_faultOf_55 : decode cX10_faultOf 55 = .ok (.aload_n 0, 1) := by decide +kernel
theorem dX10_faultOf_56 : decode cX10_faultOf 56 = .ok (.iconst 0, 1) := by decide +kernel
theorem dX10_faultOf_57 : decode cX10_faultOf 57 = .ok (.iload_n 1, 1) := by decide +kernel
theorem dX10_faultOf_58 : decode cX10_faultOf 58 = .ok (.iconst 0, 1) := by decide +kernel
theorem dX10_faultOf_59 : decode cX10_faultOf 59 = .ok (.invokestatic 31, 3) := by decide +kernel
theorem dX10_faultOf_62 : decode cX10_faultOf 62 = .ok (.ldc 35, 2) := by decide +kernel
theorem dX10_faultOf_64 : decode cX10_faultOf 64 = .ok (.if_icmp .eq 5, 3) := by decide +kernel
theorem dX10_faultOf_67 : decode cX10_faultOf 67 = .ok (.iconst 4, 1) := by decide +kernel
theorem dX10_faultOf_68 : decode cX10_faultOf 68 = .ok (.ireturn, 1) := by decide +kernel
theorem dX10_faultOf_69 : decode cX10_faultOf 69 = .ok (.aload_n 0, 1) := by decide +kernel
theorem dX10_faultOf_70 : decode cX10_faultOf 70 = .ok (.bipush 6, 2) := by decide +kernel
theorem dX10_faultOf_72 : decode cX10_faultOf 72 = .ok (.invokevirtual 17, 3) := by decide +kernel
theorem dX10_faultOf_75 : decode cX10_faultOf 75 = .ok (.bipush 63, 2) := by decide +kernel
theorem dX10_faultOf_77 : decode cX10_faultOf 77 = .ok (.iand, 1) := by decide +kernel
theorem dX10_faultOf_78 : decode cX10_faultOf 78 = .ok (.ifCond .ne 12, 3) := by decide +kernel
theorem dX10_faultOf_81 : decode cX10_faultOf 81 = .ok (.aload_n 0, 1) := by decide +kernel
theorem dX10_faultOf_82 : decode cX10_faultOf 82 = .ok (.bipush 7, 2) := by decide +kernel
theorem dX10_faultOf_84 : decode cX10_faultOf 84 = .ok (.invokevirtual 17, 3) := by decide +kernel
theorem dX10_faultOf_87 : decode cX10_faultOf 87 = .ok (.ifCond .eq 5, 3) := by decide +kernel
theorem dX10_faultOf_90 : decode cX10_faultOf 90 = .ok (.iconst 5, 1) := by decide +kernel
theorem dX10_faultOf_91 : decode cX10_faultOf 91 = .ok (.ireturn, 1) := by decide +kernel
theorem dX10_faultOf_92 : decode cX10_faultOf 92 = .ok (.aload_n 0, 1) := by decide +kernel
theorem dX10_faultOf_93 : decode cX10_faultOf 93 = .ok (.iload_n 1, 1) := by decide +kernel
theorem dX10_faultOf_94 : decode cX10_faultOf 94 = .ok (.invokestatic 36, 3) := by decide +kernel
theorem dX10_faultOf_97 : decode cX10_faultOf 97 = .ok (.ifCond .ne 6, 3) := by decide +kernel
theorem dX10_faultOf_100 : decode cX10_faultOf 100 = .ok (.bipush 6, 2) := by decide +kernel
theorem dX10_faultOf_102 : decode cX10_faultOf 102 = .ok (.ireturn, 1) := by decide +kernel
theorem dX10_faultOf_103 : decode cX10_faultOf 103 = .ok (.aload_n 0, 1) := by decide +kernel
theorem dX10_faultOf_104 : decode cX10_faultOf 104 = .ok (.iload_n 1, 1) := by decide +kernel
theorem dX10_faultOf_105 : decode cX10_faultOf 105 = .ok (.invokestatic 40, 3) := by decide +kernel
theorem dX10_faultOf_108 : decode cX10_faultOf 108 = .ok (.ifCond .eq 7, 3) := by decide +kernel
theorem dX10_faultOf_111 : decode cX10_faultOf 111 = .ok (.iconst 0, 1) := by decide +kernel
theorem dX10_faultOf_112 : decode cX10_faultOf 112 = .ok (.goto 5, 3) := by decide +kernel
theorem dX10_faultOf_115 : decode cX10_faultOf 115 = .ok (.bipush 7, 2) := by decide +kernel
theorem dX10_faultOf_117 : decode cX10_faultOf 117 = .ok (.ireturn, 1) := by decide +kernel
theorem e_X10_faultOf {X : gk_X} {F : Nat} {S : gk_S} {p0 : Nat} {r : (Int32 × gk_S)} (h0 : f_X10_faultOf F S p0 = some r) : EvM X m_X10_faultOf 5 0 0 [.ref p0] S (qRI r) := by
  unfold f_X10_faultOf at h0
  refine ev_method (by decide +kernel) rfl rfl (Nat.le_of_ble_eq_true rfl) ?_
  show EvW X m_X10_faultOf 5 0 0 0 [some (.ref p0), none] [] S _
  refine ev_aload_n (pc := 0) (i := 0) rfl rfl rfl dX10_faultOf_0 ?_
  obtain ⟨g1, h2⟩ := qk_el h0; clear h0
  obtain ⟨x3, e4, h5⟩ := qv_el h2; clear h2
  refine xv_getIv (pc := 1) fn_101 (isb_el g1) e4 gw_41 dX10_faultOf_1 ?_
  refine ev_bipush (pc := 4) (v := 20) (by decide) dX10_faultOf_4 ?_
  refine ev_ic_ge (pc := 6) (tgt := 11) (by decide) dX10_faultOf_6 (fun c6 => ?_) (fun c6 => ?_)
  · replace h5 := qi_t h5 c6
    refine ev_aload_n (pc := 11) (i := 0) rfl rfl rfl dX10_faultOf_11 ?_
    refine ev_iconst (pc := 12) (v := 0) (by decide) dX10_faultOf_12 ?_
    obtain ⟨x8, S9, e10, h11⟩ := qc_el h5; clear h5
    refine xv_callV (pc := 13) (st := []) (as := [.int 0]) (v := (some (.int x8))) (S' := S9) ok_X2_at (e_X2_at e10) (isb_el g1) (by decide) rfl (Nat.le_of_ble_eq_true rfl) rfl gw_1023 dX10_faultOf_13 ?_
    obtain ⟨x12, S13, e14, h15⟩ := qc_el h11; clear h11
    refine xv_callS (pc := 16) (st := []) (as := [.int x8]) (v := (some (.int x12))) (S' := S13) ok_X10_isFirst (e_X10_isFirst e14) (by decide) rfl (Nat.le_of_ble_eq_true rfl) rfl gw_1024 dX10_faultOf_16 ?_
    refine ev_if_ne (pc := 19) (tgt := 24) (by decide) dX10_faultOf_19 (fun c16 => ?_) (fun c16 => ?_)
    · replace h15 := qi_f h15 c16
      refine ev_aload_n (pc := 24) (i := 0) rfl rfl rfl dX10_faultOf_24 ?_
      refine ev_iconst (pc := 25) (v := 0) (by decide) dX10_faultOf_25 ?_
      obtain ⟨g18, h19⟩ := qk_el h15; clear h15
      obtain ⟨x20, S21, e22, h23⟩ := qc_el h19; clear h19
      refine xv_callV (pc := 26) (st := []) (as := [.int 0]) (v := (some (.int x20))) (S' := S21) ok_X2_at (e_X2_at e22) (isb_el g18) (by decide) rfl (Nat.le_of_ble_eq_true rfl) rfl gw_1023 dX10_faultOf_26 ?_
      obtain ⟨x24, S25, e26, h27⟩ := qc_el h23; clear h23
      refine xv_callS (pc := 29) (st := []) (as := [.int x20]) (v := (some (.int x24))) (S' := S25) ok_X10_headerOf (e_X10_headerOf e26) (by decide) rfl (Nat.le_of_ble_eq_true rfl) rfl gw_1027 dX10_faultOf_29 ?_
      refine ev_istore_n (pc := 32) (L' := [some (.ref p0), some (.int x24)]) (i := 1) rfl (by decide) rfl rfl dX10_faultOf_32 ?_
      refine ev_aload_n (pc := 33) (i := 0) rfl rfl rfl dX10_faultOf_33 ?_
      refine ev_iconst (pc := 34) (v := 2) (by decide) dX10_faultOf_34 ?_
      obtain ⟨g28, h29⟩ := qk_el h27; clear h27
      obtain ⟨x30, S31, e32, h33⟩ := qc_el h29; clear h29
      refine xv_callV (pc := 35) (st := []) (as := [.int 2]) (v := (some (.int x30))) (S' := S31) ok_X2_pair (e_X2_pair e32) (isb_el g28) (by decide) rfl (Nat.le_of_ble_eq_true rfl) rfl gw_1030 dX10_faultOf_35 ?_
      refine ev_aload_n (pc := 38) (i := 0) rfl rfl rfl dX10_faultOf_38 ?_
      obtain ⟨g34, h35⟩ := qk_el h33; clear h33
      obtain ⟨x36, e37, h38⟩ := qv_el h35; clear h35
      refine xv_getIv (pc := 39) fn_101 (isb_el g34) e37 gw_41 dX10_faultOf_39 ?_
      refine ev_ic_ne (pc := 42) (tgt := 53) (by decide) dX10_faultOf_42 (fun c39 => ?_) (fun c39 => ?_)
      · replace h38 := qi_f h38 c39
        refine ev_iconst (pc := 53) (v := 3) (by decide) dX10_faultOf_53 ?_
        exact ev_ireturn (pc := 54) rfl (nar_int _) (qRI_eq h38) dX10_faultOf_54
      · replace h38 := qi_t h38 c39
        refine ev_aload_n (pc := 45) (i := 0) rfl rfl rfl dX10_faultOf_45 ?_
        obtain ⟨x41, e42, h43⟩ := qv_el h38; clear h38
        refine xv_getIv (pc := 46) fn_101 (isb_el g34) e42 gw_41 dX10_faultOf_46 ?_
        refine ev_iload_n (pc := 49) (i := 1) rfl rfl dX10_faultOf_49 ?_
        refine ev_ic_ge (pc := 50) (tgt := 55) (by decide) dX10_faultOf_50 (fun c44 => ?_) (fun c44 => ?_)
        · replace h43 := qi_t h43 c44
          refine ev_aload_n (pc := 55) (i := 0) rfl rfl rfl dX10_faultOf_55 ?_
          refine ev_iconst (pc := 56) (v := 0) (by decide) dX10_faultOf_56 ?_
          refine ev_iload_n (pc := 57) (i := 1) rfl rfl dX10_faultOf_57 ?_
          refine ev_iconst (pc := 58) (v := 0) (by decide) dX10_faultOf_58 ?_
          obtain ⟨x46, S47, e48, h49⟩ := qc_el h43; clear h43
          refine xv_callS (pc := 59) (st := []) (as := [.ref p0, .int 0, .int x24, .int 0]) (v := (some (.int x46))) (S' := S47) ok_X10_sum (e_X10_sum e48) (by decide) rfl (Nat.le_of_ble_eq_true rfl) rfl gw_1035 dX10_faultOf_59 ?_
          refine ev_ldc (pc := 62) (v := 65535) gw_1038 dX10_faultOf_62 ?_
          refine ev_ic_eq (pc := 64) (tgt := 69) (by decide) dX10_faultOf_64 (fun c50 => ?_) (fun c50 => ?_)
          · replace h49 := qi_t h49 c50
            refine ev_aload_n (pc := 69) (i := 0) rfl rfl rfl dX10_faultOf_69 ?_
            refine ev_bipush (pc := 70) (v := 6) (by decide) dX10_faultOf_70 ?_
            obtain ⟨g52, h53⟩ := qk_el h49; clear h49
            obtain ⟨x54, S55, e56, h57⟩ := qc_el h53; clear h53
            refine xv_callV (pc := 72) (st := []) (as := [.int 6]) (v := (some (.int x54))) (S' := S55) ok_X2_at (e_X2_at e56) (isb_el g52) (by decide) rfl (Nat.le_of_ble_eq_true rfl) rfl gw_1023 dX10_faultOf_72 ?_
            refine ev_bipush (pc := 75) (v := 63) (by decide) dX10_faultOf_75 ?_
            refine ev_iand (pc := 77)  dX10_faultOf_77 ?_
            refine ev_if_ne (pc := 78) (tgt := 90) (by decide) dX10_faultOf_78 (fun c58 => ?_) (fun c58 => ?_)
            · replace h57 := qi_f h57 c58
              refine ev_iconst (pc := 90) (v := 5) (by decide) dX10_faultOf_90 ?_
              exact ev_ireturn (pc := 91) rfl (nar_int _) (qRI_eq h57) dX10_faultOf_91
            · replace h57 := qi_t h57 c58
              refine ev_aload_n (pc := 81) (i := 0) rfl rfl rfl dX10_faultOf_81 ?_
              refine ev_bipush (pc := 82) (v := 7) (by decide) dX10_faultOf_82 ?_
              obtain ⟨g60, h61⟩ := qk_el h57; clear h57
              obtain ⟨x62, S63, e64, h65⟩ := qc_el h61; clear h61
              refine xv_callV (pc := 84) (st := []) (as := [.int 7]) (v := (some (.int x62))) (S' := S63) ok_X2_at (e_X2_at e64) (isb_el g60) (by decide) rfl (Nat.le_of_ble_eq_true rfl) rfl gw_1023 dX10_faultOf_84 ?_
              refine ev_if_eq (pc := 87) (tgt := 92) (by decide) dX10_faultOf_87 (fun c66 => ?_) (fun c66 => ?_)
              · replace h65 := qi_t h65 c66
                refine ev_aload_n (pc := 92) (i := 0) rfl rfl rfl dX10_faultOf_92 ?_
                refine ev_iload_n (pc := 93) (i := 1) rfl rfl dX10_faultOf_93 ?_
                obtain ⟨x68, S69, e70, h71⟩ := qc_el h65; clear h65
                refine xv_callS (pc := 94) (st := []) (as := [.ref p0, .int x24]) (v := (some (.int x68))) (S' := S69) ok_X10_isWhole (e_X10_isWhole e70) (by decide) rfl (Nat.le_of_ble_eq_true rfl) rfl gw_1039 dX10_faultOf_94 ?_
                refine ev_if_ne (pc := 97) (tgt := 103) (by decide) dX10_faultOf_97 (fun c72 => ?_) (fun c72 => ?_)
                · replace h71 := qi_f h71 c72
                  refine ev_aload_n (pc := 103) (i := 0) rfl rfl rfl dX10_faultOf_103 ?_
                  refine ev_iload_n (pc := 104) (i := 1) rfl rfl dX10_faultOf_104 ?_
                  obtain ⟨x74, S75, e76, h77⟩ := qc_el h71; clear h71
                  refine xv_callS (pc := 105) (st := []) (as := [.ref p0, .int x24]) (v := (some (.int x74))) (S' := S75) ok_X10_isSummed (e_X10_isSummed e76) (by decide) rfl (Nat.le_of_ble_eq_true rfl) rfl gw_1042 dX10_faultOf_105 ?_
                  refine ev_if_eq (pc := 108) (tgt := 115) (by decide) dX10_faultOf_108 (fun c78 => ?_) (fun c78 => ?_)
                  · replace h77 := qi_t h77 c78
                    refine ev_bipush (pc := 115) (v := 7) (by decide) dX10_faultOf_115 ?_
                    exact ev_ireturn (pc := 117) rfl (nar_int _) (qRI_eq h77) dX10_faultOf_117
                  · replace h77 := qi_f h77 c78
                    refine ev_iconst (pc := 111) (v := 0) (by decide) dX10_faultOf_111 ?_
                    refine ev_goto (pc := 112) (tgt := 117) (by decide) dX10_faultOf_112 ?_
                    exact ev_ireturn (pc := 117) rfl (nar_int _) (qRI_eq h77) dX10_faultOf_117
                · replace h71 := qi_t h71 c72
                  refine ev_bipush (pc := 100) (v := 6) (by decide) dX10_faultOf_100 ?_
                  exact ev_ireturn (pc := 102) rfl (nar_int _) (qRI_eq h71) dX10_faultOf_102
              · replace h65 := qi_f h65 c66
                refine ev_iconst (pc := 90) (v := 5) (by decide) dX10_faultOf_90 ?_
                exact ev_ireturn (pc := 91) rfl (nar_int _) (qRI_eq h65) dX10_faultOf_91
          · replace h49 := qi_f h49 c50
            refine ev_iconst (pc := 67) (v := 4) (by decide) dX10_faultOf_67 ?_
            exact ev_ireturn (pc := 68) rfl (nar_int _) (qRI_eq h49) dX10_faultOf_68
        · replace h43 := qi_f h43 c44
          refine ev_iconst (pc := 53) (v := 3) (by decide) dX10_faultOf_53 ?_
          exact ev_ireturn (pc := 54) rfl (nar_int _) (qRI_eq h43) dX10_faultOf_54
    · replace h15 := qi_t h15 c16
      refine ev_iconst (pc := 22) (v := 2) (by decide) dX10_faultOf_22 ?_
      exact ev_ireturn (pc := 23) rfl (nar_int _) (qRI_eq h15) dX10_faultOf_23
  · replace h5 := qi_f h5 c6
    refine ev_iconst (pc := 9) (v := 1) (by decide) dX10_faultOf_9 ?_
    exact ev_ireturn (pc := 10) rfl (nar_int _) (qRI_eq h5) dX10_faultOf_10
theorem dX10_sumPlace_0 : decode cX10_sumPlace 0 = .ok (.iload_n 0, 1) := by decide +kernel
theorem dX10_sumPlace_1 : decode cX10_sumPlace 1 = .ok (.bipush 6, 2) := by decide +kernel
theorem dX10_sumPlace_3 : decode cX10_sumPlace 3 = .ok (.if_icmp .ne 8, 3) := by decide +kernel
theorem dX10_sumPlace_6 : decode cX10_sumPlace 6 = .ok (.bipush 16, 2) := by decide +kernel
theorem dX10_sumPlace_8 : decode cX10_sumPlace 8 = .ok (.goto 15, 3) := by decide +kernel
theorem dX10_sumPlace_11 : decode cX10_sumPlace 11 = .ok (.iload_n 0, 1) := by decide +kernel
theorem dX10_sumPlace_12 : decode cX10_sumPlace 12 = .ok (.bipush 17, 2) := by decide +kernel
theorem dX10_sumPlace_14 : decode cX10_sumPlace 14 = .ok (.if_icmp .ne 8, 3) := by decide +kernel
theorem dX10_sumPlace_17 : decode cX10_sumPlace 17 = .ok (.bipush 6, 2) := by decide +kernel
theorem dX10_sumPlace_19 : decode cX10_sumPlace 19 = .ok (.goto 4, 3) := by decide +kernel
theorem dX10_sumPlace_22 : decode cX10_sumPlace 22 = .ok (.iconst 2, 1) := by decide +kernel
theorem dX10_sumPlace_23 : decode cX10_sumPlace 23 = .ok (.ireturn, 1) := by decide +kernel
theorem e_X10_sumPlace {X : gk_X} {F : Nat} {S : gk_S} {p0 : Int32} {r : (Int32 × gk_S)} (h0 : f_X10_sumPlace F S p0 = some r) : EvM X m_X10_sumPlace 1 0 0 [.int p0] S (qRI r) := by
  unfold f_X10_sumPlace at h0
  refine ev_method (by decide +kernel) rfl rfl (Nat.le_of_ble_eq_true rfl) ?_
  show EvW X m_X10_sumPlace 1 0 0 0 [some (.int p0)] [] S _
  refine ev_iload_n (pc := 0) (i := 0) rfl rfl dX10_sumPlace_0 ?_
  refine ev_bipush (pc := 1) (v := 6) (by decide) dX10_sumPlace_1 ?_
  refine ev_ic_ne (pc := 3) (tgt := 11) (by decide) dX10_sumPlace_3 (fun c1 => ?_) (fun c1 => ?_)
  · replace h0 := qi_f h0 c1
    refine ev_iload_n (pc := 11) (i := 0) rfl rfl dX10_sumPlace_11 ?_
    refine ev_bipush (pc := 12) (v := 17) (by decide) dX10_sumPlace_12 ?_
    refine ev_ic_ne (pc := 14) (tgt := 22) (by decide) dX10_sumPlace_14 (fun c3 => ?_) (fun c3 => ?_)
    · replace h0 := qi_f h0 c3
      refine ev_iconst (pc := 22) (v := 2) (by decide) dX10_sumPlace_22 ?_
      exact ev_ireturn (pc := 23) rfl (nar_int _) (qRI_eq h0) dX10_sumPlace_23
    · replace h0 := qi_t h0 c3
      refine ev_bipush (pc := 17) (v := 6) (by decide) dX10_sumPlace_17 ?_
      refine ev_goto (pc := 19) (tgt := 23) (by decide) dX10_sumPlace_19 ?_
      exact ev_ireturn (pc := 23) rfl (nar_int _) (qRI_eq h0) dX10_sumPlace_23
  · replace h0 := qi_t h0 c1
    refine ev_bipush (pc := 6) (v := 16) (by decide) dX10_sumPlace_6 ?_
    refine ev_goto (pc := 8) (tgt := 23) (by decide) dX10_sumPlace_8 ?_
    exact ev_ireturn (pc := 23) rfl (nar_int _) (qRI_eq h0) dX10_sumPlace_23
theorem dX10_placeOf_0 : decode cX10_placeOf 0 = .ok (.aload_n 1, 1) := by decide +kernel
theorem dX10_placeOf_1 : decode cX10_placeOf 1 = .ok (.iconst 0, 1) := by decide +kernel
theorem dX10_placeOf_2 : decode cX10_placeOf 2 = .ok (.invokevirtual 17, 3) := by decide +kernel
theorem dX10_placeOf_5 : decode cX10_placeOf 5 = .ok (.invokestatic 25, 3) := by decide +kernel
theorem dX10_placeOf_8 : decode cX10_placeOf 8 = .ok (.istore_n 2, 1) := by decide +kernel
theorem dX10_placeOf_9 : decode cX10_placeOf 9 = .ok (.iload_n 0, 1) := by decide +kernel
theorem dX10_placeOf_10 : decode cX10_placeOf 10 = .ok (.tableswitch 69 1 7 #[42, 69, 47, 49, 52, 55, 57], 42) := by decide +kernel
theorem dX10_placeOf_52 : decode cX10_placeOf 52 = .ok (.aload_n 1, 1) := by decide +kernel
theorem dX10_placeOf_53 : decode cX10_placeOf 53 = .ok (.getfield 9, 3) := by decide +kernel
theorem dX10_placeOf_56 : decode cX10_placeOf 56 = .ok (.ireturn, 1) := by decide +kernel
theorem dX10_placeOf_57 : decode cX10_placeOf 57 = .ok (.iconst 2, 1) := by decide +kernel
theorem dX10_placeOf_58 : decode cX10_placeOf 58 = .ok (.ireturn, 1) := by decide +kernel
theorem dX10_placeOf_59 : decode cX10_placeOf 59 = .ok (.bipush 10, 2) := by decide +kernel
theorem dX10_placeOf_61 : decode cX10_placeOf 61 = .ok (.ireturn, 1) := by decide +kernel
theorem dX10_placeOf_62 : decode cX10_placeOf 62 = .ok (.bipush 6, 2) := by decide +kernel
theorem dX10_placeOf_64 : decode cX10_placeOf 64 = .ok (.ireturn, 1) := by decide +kernel
theorem dX10_placeOf_65 : decode cX10_placeOf 65 = .ok (.iload_n 2, 1) := by decide +kernel
theorem dX10_placeOf_66 : decode cX10_placeOf 66 = .ok (.ireturn, 1) := by decide +kernel
theorem dX10_placeOf_67 : decode cX10_placeOf 67 = .ok (.iload_n 2, 1) := by decide +kernel
theorem dX10_placeOf_68 : decode cX10_placeOf 68 = .ok (.aload_n 1, 1) := by decide +kernel
theorem dX10_placeOf_69 : decode cX10_placeOf 69 = .ok (.bipush 9, 2) := by decide +kernel
theorem dX10_placeOf_71 : decode cX10_placeOf 71 = .ok (.invokevirtual 17, 3) := by decide +kernel
theorem dX10_placeOf_74 : decode cX10_placeOf 74 = .ok (.invokestatic 43, 3) := by decide +kernel
theorem dX10_placeOf_77 : decode cX10_placeOf 77 = .ok (.iadd, 1) := by decide +kernel
theorem dX10_placeOf_78 : decode cX10_placeOf 78 = .ok (.ireturn, 1) := by decide +kernel
theorem dX10_placeOf_79 : decode cX10_placeOf 79 = .ok (.iconst 0, 1) := by decide +kernel
theorem dX10_placeOf_80 : decode cX10_placeOf 80 = .ok (.ireturn, 1) := by decide +kernel
theorem e_X10_placeOf {X : gk_X} {F : Nat} {S : gk_S} {p0 : Int32} {p1 : Nat} {r : (Int32 × gk_S)} (h0 : f_X10_placeOf F S p0 p1 = some r) : EvM X m_X10_placeOf 2 0 0 [.int p0, .ref p1] S (qRI r) := by
  unfold f_X10_placeOf at h0
  refine ev_method (by decide +kernel) rfl rfl (Nat.le_of_ble_eq_true rfl) ?_
  show EvW X m_X10_placeOf 2 0 0 0 [some (.int p0), some (.ref p1), none] [] S _
  refine ev_aload_n (pc := 0) (i := 1) rfl rfl rfl dX10_placeOf_0 ?_
  refine ev_iconst (pc := 1) (v := 0) (by decide) dX10_placeOf_1 ?_
  obtain ⟨g1, h2⟩ := qk_el h0; clear h0
  obtain ⟨x3, S4, e5, h6⟩ := qc_el h2; clear h2
  refine xv_callV (pc := 2) (st := []) (as := [.int 0]) (v := (some (.int x3))) (S' := S4) ok_X2_at (e_X2_at e5) (isb_el g1) (by decide) rfl (Nat.le_of_ble_eq_true rfl) rfl gw_1023 dX10_placeOf_2 ?_
  obtain ⟨x7, S8, e9, h10⟩ := qc_el h6; clear h6
  refine xv_callS (pc := 5) (st := []) (as := [.int x3]) (v := (some (.int x7))) (S' := S8) ok_X10_headerOf (e_X10_headerOf e9) (by decide) rfl (Nat.le_of_ble_eq_true rfl) rfl gw_1027 dX10_placeOf_5 ?_
  refine ev_istore_n (pc := 8) (L' := [some (.int p0), some (.ref p1), some (.int x7)]) (i := 2) rfl (by decide) rfl rfl dX10_placeOf_8 ?_
  refine ev_iload_n (pc := 9) (i := 0) rfl rfl dX10_placeOf_9 ?_
  by_cases c11 : p0 = 1
  · refine ev_tableIn (pc := 10) (off := 42) (tgt := 52) (by rw [c11]; decide) (by rw [c11]; decide) (by rw [c11]; rfl) (by decide) dX10_placeOf_10 ?_
    replace h10 := qi_t h10 c11
    refine ev_aload_n (pc := 52) (i := 1) rfl rfl rfl dX10_placeOf_52 ?_
    obtain ⟨g12, h13⟩ := qk_el h10; clear h10
    obtain ⟨x14, e15, h16⟩ := qv_el h13; clear h13
    refine xv_getIv (pc := 53) fn_101 (isb_el g12) e15 gw_41 dX10_placeOf_53 ?_
    exact ev_ireturn (pc := 56) rfl (nar_int _) (qRI_eq h16) dX10_placeOf_56
  replace h10 := qi_f h10 c11
  by_cases c17 : p0 = 2
  · refine ev_tableIn (pc := 10) (off := 69) (tgt := 79) (by rw [c17]; decide) (by rw [c17]; decide) (by rw [c17]; rfl) (by decide) dX10_placeOf_10 ?_
    replace h10 := qi_t h10 c17
    refine ev_iconst (pc := 79) (v := 0) (by decide) dX10_placeOf_79 ?_
    exact ev_ireturn (pc := 80) rfl (nar_int _) (qRI_eq h10) dX10_placeOf_80
  replace h10 := qi_f h10 c17
  by_cases c18 : p0 = 3
  · refine ev_tableIn (pc := 10) (off := 47) (tgt := 57) (by rw [c18]; decide) (by rw [c18]; decide) (by rw [c18]; rfl) (by decide) dX10_placeOf_10 ?_
    replace h10 := qi_t h10 c18
    refine ev_iconst (pc := 57) (v := 2) (by decide) dX10_placeOf_57 ?_
    exact ev_ireturn (pc := 58) rfl (nar_int _) (qRI_eq h10) dX10_placeOf_58
  replace h10 := qi_f h10 c18
  by_cases c19 : p0 = 4
  · refine ev_tableIn (pc := 10) (off := 49) (tgt := 59) (by rw [c19]; decide) (by rw [c19]; decide) (by rw [c19]; rfl) (by decide) dX10_placeOf_10 ?_
    replace h10 := qi_t h10 c19
    refine ev_bipush (pc := 59) (v := 10) (by decide) dX10_placeOf_59 ?_
    exact ev_ireturn (pc := 61) rfl (nar_int _) (qRI_eq h10) dX10_placeOf_61
  replace h10 := qi_f h10 c19
  by_cases c20 : p0 = 5
  · refine ev_tableIn (pc := 10) (off := 52) (tgt := 62) (by rw [c20]; decide) (by rw [c20]; decide) (by rw [c20]; rfl) (by decide) dX10_placeOf_10 ?_
    replace h10 := qi_t h10 c20
    refine ev_bipush (pc := 62) (v := 6) (by decide) dX10_placeOf_62 ?_
    exact ev_ireturn (pc := 64) rfl (nar_int _) (qRI_eq h10) dX10_placeOf_64
  replace h10 := qi_f h10 c20
  by_cases c21 : p0 = 6
  · refine ev_tableIn (pc := 10) (off := 55) (tgt := 65) (by rw [c21]; decide) (by rw [c21]; decide) (by rw [c21]; rfl) (by decide) dX10_placeOf_10 ?_
    replace h10 := qi_t h10 c21
    refine ev_iload_n (pc := 65) (i := 2) rfl rfl dX10_placeOf_65 ?_
    exact ev_ireturn (pc := 66) rfl (nar_int _) (qRI_eq h10) dX10_placeOf_66
  replace h10 := qi_f h10 c21
  by_cases c22 : p0 = 7
  · refine ev_tableIn (pc := 10) (off := 57) (tgt := 67) (by rw [c22]; decide) (by rw [c22]; decide) (by rw [c22]; rfl) (by decide) dX10_placeOf_10 ?_
    replace h10 := qi_t h10 c22
    refine ev_iload_n (pc := 67) (i := 2) rfl rfl dX10_placeOf_67 ?_
    refine ev_aload_n (pc := 68) (i := 1) rfl rfl rfl dX10_placeOf_68 ?_
    refine ev_bipush (pc := 69) (v := 9) (by decide) dX10_placeOf_69 ?_
    obtain ⟨g23, h24⟩ := qk_el h10; clear h10
    obtain ⟨x25, S26, e27, h28⟩ := qc_el h24; clear h24
    refine xv_callV (pc := 71) (st := [.int x7]) (as := [.int 9]) (v := (some (.int x25))) (S' := S26) ok_X2_at (e_X2_at e27) (isb_el g23) (by decide) rfl (Nat.le_of_ble_eq_true rfl) rfl gw_1023 dX10_placeOf_71 ?_
    obtain ⟨x29, S30, e31, h32⟩ := qc_el h28; clear h28
    refine xv_callS (pc := 74) (st := [.int x7]) (as := [.int x25]) (v := (some (.int x29))) (S' := S30) ok_X10_sumPlace (e_X10_sumPlace e31) (by decide) rfl (Nat.le_of_ble_eq_true rfl) rfl gw_1054 dX10_placeOf_74 ?_
    refine ev_iadd (pc := 77)  dX10_placeOf_77 ?_
    exact ev_ireturn (pc := 78) rfl (nar_int _) (qRI_eq h32) dX10_placeOf_78
  replace h10 := qi_f h10 c22
  refine ev_tableOut (pc := 10) (tgt := 79) (by have z1 := ti_ne c11 (n := 1) rfl; have z2 := ti_ne c17 (n := 2) rfl; have z3 := ti_ne c18 (n := 3) rfl; have z4 := ti_ne c19 (n := 4) rfl; have z5 := ti_ne c20 (n := 5) rfl; have z6 := ti_ne c21 (n := 6) rfl; have z7 := ti_ne c22 (n := 7) rfl; omega) (by decide) dX10_placeOf_10 ?_
  refine ev_iconst (pc := 79) (v := 0) (by decide) dX10_placeOf_79 ?_
  exact ev_ireturn (pc := 80) rfl (nar_int _) (qRI_eq h10) dX10_placeOf_80
theorem dX2_quad_0 : decode cX2_quad 0 = .ok (.aload_n 0, 1) := by decide +kernel
theorem dX2_quad_1 : decode cX2_quad 1 = .ok (.iload_n 1, 1) := by decide +kernel
theorem dX2_quad_2 : decode cX2_quad 2 = .ok (.invokevirtual 21, 3) := by decide +kernel
theorem dX2_quad_5 : decode cX2_quad 5 = .ok (.i2l, 1) := by decide +kernel
theorem dX2_quad_6 : decode cX2_quad 6 = .ok (.ldc2_w 24, 3) := by decide +kernel
theorem dX2_quad_9 : decode cX2_quad 9 = .ok (.lmul, 1) := by decide +kernel
theorem dX2_quad_10 : decode cX2_quad 10 = .ok (.aload_n 0, 1) := by decide +kernel
theorem dX2_quad_11 : decode cX2_quad 11 = .ok (.iload_n 1, 1) := by decide +kernel
theorem dX2_quad_12 : decode cX2_quad 12 = .ok (.iconst 2, 1) := by decide +kernel
theorem dX2_quad_13 : decode cX2_quad 13 = .ok (.iadd, 1) := by decide +kernel
theorem dX2_quad_14 : decode cX2_quad 14 = .ok (.invokevirtual 21, 3) := by decide +kernel
theorem dX2_quad_17 : decode cX2_quad 17 = .ok (.i2l, 1) := by decide +kernel
theorem dX2_quad_18 : decode cX2_quad 18 = .ok (.ladd, 1) := by decide +kernel
theorem dX2_quad_19 : decode cX2_quad 19 = .ok (.lreturn, 1) := by decide +kernel
theorem e_X2_quad {X : gk_X} {F : Nat} {S : gk_S} {a : Nat} {p0 : Int32} {r : (Int64 × gk_S)} (h0 : f_X2_quad F S a p0 = some r) : EvM X m_X2_quad 3 0 0 [.ref a, .int p0] S (qRJ r) := by
  unfold f_X2_quad at h0
  refine ev_method (by decide +kernel) rfl rfl (Nat.le_of_ble_eq_true rfl) ?_
  show EvW X m_X2_quad 3 0 0 0 [some (.ref a), some (.int p0)] [] S _
  refine ev_aload_n (pc := 0) (i := 0) rfl rfl rfl dX2_quad_0 ?_
  refine ev_iload_n (pc := 1) (i := 1) rfl rfl dX2_quad_1 ?_
  obtain ⟨g1, h2⟩ := qk_el h0; clear h0
  obtain ⟨x3, S4, e5, h6⟩ := qc_el h2; clear h2
  refine xv_callV (pc := 2) (st := []) (as := [.int p0]) (v := (some (.int x3))) (S' := S4) ok_X2_pair (e_X2_pair e5) (isb_el g1) (by decide) rfl (Nat.le_of_ble_eq_true rfl) rfl gw_1064 dX2_quad_2 ?_
  refine ev_i2l (pc := 5)  dX2_quad_5 ?_
  refine ev_ldc2 (pc := 6) (v := 65536) gw_1065 dX2_quad_6 ?_
  refine ev_lmul (pc := 9)  dX2_quad_9 ?_
  refine ev_aload_n (pc := 10) (i := 0) rfl rfl rfl dX2_quad_10 ?_
  refine ev_iload_n (pc := 11) (i := 1) rfl rfl dX2_quad_11 ?_
  refine ev_iconst (pc := 12) (v := 2) (by decide) dX2_quad_12 ?_
  refine ev_iadd (pc := 13)  dX2_quad_13 ?_
  obtain ⟨g7, h8⟩ := qk_el h6; clear h6
  obtain ⟨x9, S10, e11, h12⟩ := qc_el h8; clear h8
  refine xv_callV (pc := 14) (st := [.long (((x3 : Int32).toInt64) * 65536)]) (as := [.int (p0 + 2)]) (v := (some (.int x9))) (S' := S10) ok_X2_pair (e_X2_pair e11) (isb_el g7) (by decide) rfl (Nat.le_of_ble_eq_true rfl) rfl gw_1064 dX2_quad_14 ?_
  refine ev_i2l (pc := 17)  dX2_quad_17 ?_
  refine ev_ladd (pc := 18)  dX2_quad_18 ?_
  exact ev_lreturn (pc := 19) rfl (qRJ_eq h12) dX2_quad_19
theorem dX3_icmpType_0 : decode cX3_icmpType 0 = .ok (.aload_n 0, 1) := by decide +kernel
theorem dX3_icmpType_1 : decode cX3_icmpType 1 = .ok (.getfield 9, 3) := by decide +kernel
theorem dX3_icmpType_4 : decode cX3_icmpType 4 = .ok (.iconst 4, 1) := by decide +kernel
theorem dX3_icmpType_5 : decode cX3_icmpType 5 = .ok (.laload, 1) := by decide +kernel
theorem dX3_icmpType_6 : decode cX3_icmpType 6 = .ok (.bipush 8, 2) := by decide +kernel
theorem dX3_icmpType_8 : decode cX3_icmpType 8 = .ok (.lshr, 1) := by decide +kernel
theorem dX3_icmpType_9 : decode cX3_icmpType 9 = .ok (.l2i, 1) := by decide +kernel
theorem dX3_icmpType_10 : decode cX3_icmpType 10 = .ok (.ireturn, 1) := by decide +kernel
theorem e_X3_icmpType {X : gk_X} {F : Nat} {S : gk_S} {a : Nat} {r : (Int32 × gk_S)} (h0 : f_X3_icmpType F S a = some r) : EvM X m_X3_icmpType 1 0 0 [.ref a] S (qRI r) := by
  unfold f_X3_icmpType at h0
  refine ev_method (by decide +kernel) rfl rfl (Nat.le_of_ble_eq_true rfl) ?_
  show EvW X m_X3_icmpType 1 0 0 0 [some (.ref a)] [] S _
  refine ev_aload_n (pc := 0) (i := 0) rfl rfl rfl dX3_icmpType_0 ?_
  obtain ⟨g1, h2⟩ := qk_el h0; clear h0
  obtain ⟨b3, e4, h5⟩ := qP_el h2; clear h2
  refine xv_getP (pc := 1) fn_200 (isb_el g1) e4 gw_267 dX3_icmpType_1 ?_
  refine ev_iconst (pc := 4) (v := 4) (by decide) dX3_icmpType_4 ?_
  obtain ⟨g6, h7⟩ := qk_el h5; clear h5
  obtain ⟨g8, h9⟩ := qk_el h7; clear h7
  obtain ⟨x10, e11, h12⟩ := qv_el h9; clear h9
  refine yv_lald (pc := 5) (isb_el g6) (inb_el g8) e11 dX3_icmpType_5 ?_
  refine ev_bipush (pc := 6) (v := 8) (by decide) dX3_icmpType_6 ?_
  refine ev_lshr (pc := 8)  dX3_icmpType_8 ?_
  refine ev_l2i (pc := 9)  dX3_icmpType_9 ?_
  exact ev_ireturn (pc := 10) rfl (nar_int _) (qRI_eq h12) dX3_icmpType_10
theorem dX3_isEcho_0 : decode cX3_isEcho 0 = .ok (.aload_n 0, 1) := by decide +kernel
theorem dX3_isEcho_1 : decode cX3_isEcho 1 = .ok (.invokevirtual 22, 3) := by decide +kernel
theorem dX3_isEcho_4 : decode cX3_isEcho 4 = .ok (.ifCond .eq 12, 3) := by decide +kernel
theorem dX3_isEcho_7 : decode cX3_isEcho 7 = .ok (.aload_n 0, 1) := by decide +kernel
theorem dX3_isEcho_8 : decode cX3_isEcho 8 = .ok (.invokevirtual 22, 3) := by decide +kernel
theorem dX3_isEcho_11 : decode cX3_isEcho 11 = .ok (.bipush 8, 2) := by decide +kernel
theorem dX3_isEcho_13 : decode cX3_isEcho 13 = .ok (.if_icmp .ne 7, 3) := by decide +kernel
theorem dX3_isEcho_16 : decode cX3_isEcho 16 = .ok (.iconst 1, 1) := by decide +kernel
theorem dX3_isEcho_17 : decode cX3_isEcho 17 = .ok (.goto 4, 3) := by decide +kernel
theorem dX3_isEcho_20 : decode cX3_isEcho 20 = .ok (.iconst 0, 1) := by decide +kernel
theorem dX3_isEcho_21 : decode cX3_isEcho 21 = .ok (.ireturn, 1) := by decide +kernel
theorem e_X3_isEcho {X : gk_X} {F : Nat} {S : gk_S} {a : Nat} {r : (Int32 × gk_S)} (h0 : f_X3_isEcho F S a = some r) : EvM X m_X3_isEcho 2 0 0 [.ref a] S (qRI r) := by
  unfold f_X3_isEcho at h0
  refine ev_method (by decide +kernel) rfl rfl (Nat.le_of_ble_eq_true rfl) ?_
  show EvW X m_X3_isEcho 2 0 0 0 [some (.ref a)] [] S _
  refine ev_aload_n (pc := 0) (i := 0) rfl rfl rfl dX3_isEcho_0 ?_
  obtain ⟨g1, h2⟩ := qk_el h0; clear h0
  obtain ⟨x3, S4, e5, h6⟩ := qc_el h2; clear h2
  refine xv_callV (pc := 1) (st := []) (as := []) (v := (some (.int x3))) (S' := S4) ok_X3_icmpType (e_X3_icmpType e5) (isb_el g1) (by decide) rfl (Nat.le_of_ble_eq_true rfl) rfl gw_1070 dX3_isEcho_1 ?_
  refine ev_if_eq (pc := 4) (tgt := 16) (by decide) dX3_isEcho_4 (fun c7 => ?_) (fun c7 => ?_)
  · replace h6 := qi_t h6 c7
    refine ev_iconst (pc := 16) (v := 1) (by decide) dX3_isEcho_16 ?_
    refine ev_goto (pc := 17) (tgt := 21) (by decide) dX3_isEcho_17 ?_
    exact ev_ireturn (pc := 21) rfl rfl (qRI_eq h6) dX3_isEcho_21
  · replace h6 := qi_f h6 c7
    refine ev_aload_n (pc := 7) (i := 0) rfl rfl rfl dX3_isEcho_7 ?_
    obtain ⟨g9, h10⟩ := qk_el h6; clear h6
    obtain ⟨x11, S12, e13, h14⟩ := qc_el h10; clear h10
    refine xv_callV (pc := 8) (st := []) (as := []) (v := (some (.int x11))) (S' := S12) ok_X3_icmpType (e_X3_icmpType e13) (isb_el g9) (by decide) rfl (Nat.le_of_ble_eq_true rfl) rfl gw_1070 dX3_isEcho_8 ?_
    refine ev_bipush (pc := 11) (v := 8) (by decide) dX3_isEcho_11 ?_
    refine ev_ic_ne (pc := 13) (tgt := 20) (by decide) dX3_isEcho_13 (fun c15 => ?_) (fun c15 => ?_)
    · replace h14 := qi_f h14 c15
      refine ev_iconst (pc := 20) (v := 0) (by decide) dX3_isEcho_20 ?_
      exact ev_ireturn (pc := 21) rfl rfl (qRI_eq h14) dX3_isEcho_21
    · replace h14 := qi_t h14 c15
      refine ev_iconst (pc := 16) (v := 1) (by decide) dX3_isEcho_16 ?_
      refine ev_goto (pc := 17) (tgt := 21) (by decide) dX3_isEcho_17 ?_
      exact ev_ireturn (pc := 21) rfl rfl (qRI_eq h14) dX3_isEcho_21
theorem dX10_readPacket_0 : decode cX10_readPacket 0 = .ok (.aload_n 0, 1) := by decide +kernel
theorem dX10_readPacket_1 : decode cX10_readPacket 1 = .ok (.iload_n 1, 1) := by decide +kernel
theorem dX10_readPacket_2 : decode cX10_readPacket 2 = .ok (.bipush 9, 2) := by decide +kernel
theorem dX10_readPacket_4 : decode cX10_readPacket 4 = .ok (.iadd, 1) := by decide +kernel
theorem dX10_readPacket_5 : decode cX10_readPacket 5 = .ok (.invokevirtual 17, 3) := by decide +kernel
theorem dX10_readPacket_8 : decode cX10_readPacket 8 = .ok (.istore_n 3, 1) := by decide +kernel
theorem dX10_readPacket_9 : decode cX10_readPacket 9 = .ok (.iload_n 1, 1) := by decide +kernel
theorem dX10_readPacket_10 : decode cX10_readPacket 10 = .ok (.aload_n 0, 1) := by decide +kernel
theorem dX10_readPacket_11 : decode cX10_readPacket 11 = .ok (.iload_n 1, 1) := by decide +kernel
theorem dX10_readPacket_12 : decode cX10_readPacket 12 = .ok (.invokevirtual 17, 3) := by decide +kernel
theorem dX10_readPacket_15 : decode cX10_readPacket 15 = .ok (.invokestatic 25, 3) := by decide +kernel
theorem dX10_readPacket_18 : decode cX10_readPacket 18 = .ok (.iadd, 1) := by decide +kernel
theorem dX10_readPacket_19 : decode cX10_readPacket 19 = .ok (.istore 4, 2) := by decide +kernel
theorem dX10_readPacket_21 : decode cX10_readPacket 21 = .ok (.aload_n 2, 1) := by decide +kernel
theorem dX10_readPacket_22 : decode cX10_readPacket 22 = .ok (.getfield 46, 3) := by decide +kernel
theorem dX10_readPacket_25 : decode cX10_readPacket 25 = .ok (.iconst 0, 1) := by decide +kernel
theorem dX10_readPacket_26 : decode cX10_readPacket 26 = .ok (.lconst 0, 1) := by decide +kernel
theorem dX10_readPacket_27 : decode cX10_readPacket 27 = .ok (.lastore, 1) := by decide +kernel
theorem dX10_readPacket_28 : decode cX10_readPacket 28 = .ok (.aload_n 2, 1) := by decide +kernel
theorem dX10_readPacket_29 : decode cX10_readPacket 29 = .ok (.getfield 46, 3) := by decide +kernel
theorem dX10_readPacket_32 : decode cX10_readPacket 32 = .ok (.iconst 1, 1) := by decide +kernel
theorem dX10_readPacket_33 : decode cX10_readPacket 33 = .ok (.iload_n 3, 1) := by decide +kernel
theorem dX10_readPacket_34 : decode cX10_readPacket 34 = .ok (.i2l, 1) := by decide +kernel
theorem dX10_readPacket_35 : decode cX10_readPacket 35 = .ok (.lastore, 1) := by decide +kernel
theorem dX10_readPacket_36 : decode cX10_readPacket 36 = .ok (.aload_n 2, 1) := by decide +kernel
theorem dX10_readPacket_37 : decode cX10_readPacket 37 = .ok (.getfield 46, 3) := by decide +kernel
theorem dX10_readPacket_40 : decode cX10_readPacket 40 = .ok (.iconst 2, 1) := by decide +kernel
theorem dX10_readPacket_41 : decode cX10_readPacket 41 = .ok (.aload_n 0, 1) := by decide +kernel
theorem dX10_readPacket_42 : decode cX10_readPacket 42 = .ok (.iload_n 1, 1) := by decide +kernel
theorem dX10_readPacket_43 : decode cX10_readPacket 43 = .ok (.bipush 12, 2) := by decide +kernel
theorem dX10_readPacket_45 : decode cX10_readPacket 45 = .ok (.iadd, 1) := by decide +kernel
theorem dX10_readPacket_46 : decode cX10_readPacket 46 = .ok (.invokevirtual 52, 3) := by decide +kernel
theorem dX10_readPacket_49 : decode cX10_readPacket 49 = .ok (.lastore, 1) := by decide +kernel
theorem dX10_readPacket_50 : decode cX10_readPacket 50 = .ok (.aload_n 2, 1) := by decide +kernel
theorem dX10_readPacket_51 : decode cX10_readPacket 51 = .ok (.getfield 46, 3) := by decide +kernel
theorem dX10_readPacket_54 : decode cX10_readPacket 54 = .ok (.iconst 3, 1) := by decide +kernel
theorem dX10_readPacket_55 : decode cX10_readPacket 55 = .ok (.aload_n 0, 1) := by decide +kernel
theorem dX10_readPacket_56 : decode cX10_readPacket 56 = .ok (.iload_n 1, 1) := by decide +kernel
theorem dX10_readPacket_57 : decode cX10_readPacket 57 = .ok (.bipush 16, 2) := by decide +kernel
theorem dX10_readPacket_59 : decode cX10_readPacket 59 = .ok (.iadd, 1) := by decide +kernel
theorem dX10_readPacket_60 : decode cX10_readPacket 60 = .ok (.invokevirtual 52, 3) := by decide +kernel
theorem dX10_readPacket_63 : decode cX10_readPacket 63 = .ok (.lastore, 1) := by decide +kernel
theorem dX10_readPacket_64 : decode cX10_readPacket 64 = .ok (.aload_n 2, 1) := by decide +kernel
theorem dX10_readPacket_65 : decode cX10_readPacket 65 = .ok (.getfield 46, 3) := by decide +kernel
theorem dX10_readPacket_68 : decode cX10_readPacket 68 = .ok (.iconst 4, 1) := by decide +kernel
theorem dX10_readPacket_69 : decode cX10_readPacket 69 = .ok (.iload_n 3, 1) := by decide +kernel
theorem dX10_readPacket_70 : decode cX10_readPacket 70 = .ok (.invokestatic 56, 3) := by decide +kernel
theorem dX10_readPacket_73 : decode cX10_readPacket 73 = .ok (.ifCond .eq 13, 3) := by decide +kernel
theorem dX10_readPacket_76 : decode cX10_readPacket 76 = .ok (.aload_n 0, 1) := by decide +kernel
theorem dX10_readPacket_77 : decode cX10_readPacket 77 = .ok (.iload 4, 2) := by decide +kernel
theorem dX10_readPacket_79 : decode cX10_readPacket 79 = .ok (.invokevirtual 28, 3) := by decide +kernel
theorem dX10_readPacket_82 : decode cX10_readPacket 82 = .ok (.i2l, 1) := by decide +kernel
theorem dX10_readPacket_83 : decode cX10_readPacket 83 = .ok (.goto 4, 3) := by decide +kernel
theorem dX10_readPacket_86 : decode cX10_readPacket 86 = .ok (.lconst 0, 1) := by decide +kernel
theorem dX10_readPacket_87 : decode cX10_readPacket 87 = .ok (.lastore, 1) := by decide +kernel
theorem dX10_readPacket_88 : decode cX10_readPacket 88 = .ok (.aload_n 2, 1) := by decide +kernel
theorem dX10_readPacket_89 : decode cX10_readPacket 89 = .ok (.getfield 46, 3) := by decide +kernel
theorem dX10_readPacket_92 : decode cX10_readPacket 92 = .ok (.iconst 5, 1) := by decide +kernel
theorem dX10_readPacket_93 : decode cX10_readPacket 93 = .ok (.lconst 0, 1) := by decide +kernel
theorem dX10_readPacket_94 : decode cX10_readPacket 94 = .ok (.lastore, 1) := by decide +kernel
theorem dX10_readPacket_95 : decode cX10_readPacket 95 = .ok (.aload_n 2, 1) := by decide +kernel
theorem dX10_readPacket_96 : decode cX10_readPacket 96 = .ok (.iconst 0, 1) := by decide +kernel
theorem dX10_readPacket_97 : decode cX10_readPacket 97 = .ok (.putfield 59, 3) := by decide +kernel
theorem dX10_readPacket_100 : decode cX10_readPacket 100 = .ok (.iload_n 3, 1) := by decide +kernel
theorem dX10_readPacket_101 : decode cX10_readPacket 101 = .ok (.bipush 6, 2) := by decide +kernel
theorem dX10_readPacket_103 : decode cX10_readPacket 103 = .ok (.if_icmp .eq 9, 3) := by decide +kernel
theorem dX10_readPacket_106 : decode cX10_readPacket 106 = .ok (.iload_n 3, 1) := by decide +kernel
theorem dX10_readPacket_107 : decode cX10_readPacket 107 = .ok (.bipush 17, 2) := by decide +kernel
theorem dX10_readPacket_109 : decode cX10_readPacket 109 = .ok (.if_icmp .ne 21, 3) := by decide +kernel
theorem dX10_readPacket_112 : decode cX10_readPacket 112 = .ok (.aload_n 2, 1) := by decide +kernel
theorem dX10_readPacket_113 : decode cX10_readPacket 113 = .ok (.getfield 46, 3) := by decide +kernel
theorem dX10_readPacket_116 : decode cX10_readPacket 116 = .ok (.iconst 5, 1) := by decide +kernel
theorem dX10_readPacket_117 : decode cX10_readPacket 117 = .ok (.aload_n 0, 1) := by decide +kernel
theorem dX10_readPacket_118 : decode cX10_readPacket 118 = .ok (.iload 4, 2) := by decide +kernel
theorem dX10_readPacket_120 : decode cX10_readPacket 120 = .ok (.iconst 2, 1) := by decide +kernel
theorem dX10_readPacket_121 : decode cX10_readPacket 121 = .ok (.iadd, 1) := by decide +kernel
theorem dX10_readPacket_122 : decode cX10_readPacket 122 = .ok (.invokevirtual 28, 3) := by decide +kernel
theorem dX10_readPacket_125 : decode cX10_readPacket 125 = .ok (.i2l, 1) := by decide +kernel
theorem dX10_readPacket_126 : decode cX10_readPacket 126 = .ok (.lastore, 1) := by decide +kernel
theorem dX10_readPacket_127 : decode cX10_readPacket 127 = .ok (.goto 30, 3) := by decide +kernel
theorem dX10_readPacket_130 : decode cX10_readPacket 130 = .ok (.iload_n 3, 1) := by decide +kernel
theorem dX10_readPacket_131 : decode cX10_readPacket 131 = .ok (.iconst 1, 1) := by decide +kernel
theorem dX10_readPacket_132 : decode cX10_readPacket 132 = .ok (.if_icmp .ne 25, 3) := by decide +kernel
theorem dX10_readPacket_135 : decode cX10_readPacket 135 = .ok (.aload_n 2, 1) := by decide +kernel
theorem dX10_readPacket_136 : decode cX10_readPacket 136 = .ok (.invokevirtual 62, 3) := by decide +kernel
theorem dX10_readPacket_139 : decode cX10_readPacket 139 = .ok (.ifCond .eq 18, 3) := by decide +kernel
theorem dX10_readPacket_142 : decode cX10_readPacket 142 = .ok (.aload_n 2, 1) := by decide +kernel
theorem dX10_readPacket_143 : decode cX10_readPacket 143 = .ok (.getfield 46, 3) := by decide +kernel
theorem dX10_readPacket_146 : decode cX10_readPacket 146 = .ok (.iconst 5, 1) := by decide +kernel
theorem dX10_readPacket_147 : decode cX10_readPacket 147 = .ok (.aload_n 0, 1) := by decide +kernel
theorem dX10_readPacket_148 : decode cX10_readPacket 148 = .ok (.iload 4, 2) := by decide +kernel
theorem dX10_readPacket_150 : decode cX10_readPacket 150 = .ok (.iconst 4, 1) := by decide +kernel
theorem dX10_readPacket_151 : decode cX10_readPacket 151 = .ok (.iadd, 1) := by decide +kernel
theorem dX10_readPacket_152 : decode cX10_readPacket 152 = .ok (.invokevirtual 28, 3) := by decide +kernel
theorem dX10_readPacket_155 : decode cX10_readPacket 155 = .ok (.i2l, 1) := by decide +kernel
theorem dX10_readPacket_156 : decode cX10_readPacket 156 = .ok (.lastore, 1) := by decide +kernel
theorem dX10_readPacket_157 : decode cX10_readPacket 157 = .ok (.return_, 1) := by decide +kernel
theorem e_X10_readPacket_112 {X : gk_X} {F : Nat} {l0 : Nat} {l2 : Nat} {l4 : Int32} {S : gk_S} {r : (Unit × gk_S)} (h0 : f_X10_readPacket_112 F l0 l2 l4 S = some r) : EvW X m_X10_readPacket 4 0 0 112 [some (.ref l0), none, some (.ref l2), none, some (.int l4)] [] S (qRU r) := by
  unfold f_X10_readPacket_112 at h0
  refine ev_aload_n (pc := 112) (i := 2) rfl rfl rfl dX10_readPacket_112 ?_
  obtain ⟨g108, h109⟩ := qk_el h0; clear h0
  obtain ⟨b110, e111, h112⟩ := qP_el h109; clear h109
  refine xv_getP (pc := 113) fn_200 (isb_el g108) e111 gw_269 dX10_readPacket_113 ?_
  refine ev_iconst (pc := 116) (v := 5) (by decide) dX10_readPacket_116 ?_
  refine ev_aload_n (pc := 117) (i := 0) rfl rfl rfl dX10_readPacket_117 ?_
  refine ev_iload (pc := 118) (i := 4) rfl dX10_readPacket_118 ?_
  refine ev_iconst (pc := 120) (v := 2) (by decide) dX10_readPacket_120 ?_
  refine ev_iadd (pc := 121)  dX10_readPacket_121 ?_
  obtain ⟨g113, h114⟩ := qk_el h112; clear h112
  obtain ⟨x115, S116, e117, h118⟩ := qc_el h114; clear h114
  refine xv_callV (pc := 122) (st := [.int 5, .ref b110]) (as := [.int (l4 + 2)]) (v := (some (.int x115))) (S' := S116) ok_X2_pair (e_X2_pair e117) (isb_el g113) (by decide) rfl (Nat.le_of_ble_eq_true rfl) rfl gw_1030 dX10_readPacket_122 ?_
  refine ev_i2l (pc := 125)  dX10_readPacket_125 ?_
  obtain ⟨g119, h120⟩ := qk_el h118; clear h118
  obtain ⟨g121, h122⟩ := qk_el h120; clear h120
  obtain ⟨S123, e124, h125⟩ := qv_el h122; clear h122
  refine yv_last (pc := 126) (isb_el g119) (inb_el g121) e124 dX10_readPacket_126 ?_
  refine ev_goto (pc := 127) (tgt := 157) (by decide) dX10_readPacket_127 ?_
  exact ev_return (pc := 157) rfl (qRU_eq h125) dX10_readPacket_157
theorem e_X10_readPacket_87 {X : gk_X} {F : Nat} {l0 : Nat} {l2 : Nat} {l3 : Int32} {l4 : Int32} {s0 : Int64} {s1 : Int32} {s2 : Nat} {S : gk_S} {r : (Unit × gk_S)} (h0 : f_X10_readPacket_87 F l0 l2 l3 l4 s0 s1 s2 S = some r) : EvW X m_X10_readPacket 4 0 0 87 [some (.ref l0), none, some (.ref l2), some (.int l3), some (.int l4)] [.long s0, .int s1, .ref s2] S (qRU r) := by
  unfold f_X10_readPacket_87 at h0
  obtain ⟨g84, h85⟩ := qk_el h0; clear h0
  obtain ⟨g86, h87⟩ := qk_el h85; clear h85
  obtain ⟨S88, e89, h90⟩ := qv_el h87; clear h87
  refine yv_last (pc := 87) (isb_el g84) (inb_el g86) e89 dX10_readPacket_87 ?_
  refine ev_aload_n (pc := 88) (i := 2) rfl rfl rfl dX10_readPacket_88 ?_
  obtain ⟨g91, h92⟩ := qk_el h90; clear h90
  obtain ⟨b93, e94, h95⟩ := qP_el h92; clear h92
  refine xv_getP (pc := 89) fn_200 (isb_el g91) e94 gw_269 dX10_readPacket_89 ?_
  refine ev_iconst (pc := 92) (v := 5) (by decide) dX10_readPacket_92 ?_
  refine ev_lconst (pc := 93) (v := 0) (by decide) dX10_readPacket_93 ?_
  obtain ⟨g96, h97⟩ := qk_el h95; clear h95
  obtain ⟨g98, h99⟩ := qk_el h97; clear h97
  obtain ⟨S100, e101, h102⟩ := qv_el h99; clear h99
  refine yv_last (pc := 94) (isb_el g96) (inb_el g98) e101 dX10_readPacket_94 ?_
  refine ev_aload_n (pc := 95) (i := 2) rfl rfl rfl dX10_readPacket_95 ?_
  refine ev_iconst (pc := 96) (v := 0) (by decide) dX10_readPacket_96 ?_
  obtain ⟨S103, e104, h105⟩ := qv_el h102; clear h102
  refine yv_putI (pc := 97) fn_201 ⟨rfl, rfl⟩ (is_wJ (isb_el g91) e101) e104 gw_274 dX10_readPacket_97 ?_
  refine ev_iload_n (pc := 100) (i := 3) rfl rfl dX10_readPacket_100 ?_
  refine ev_bipush (pc := 101) (v := 6) (by decide) dX10_readPacket_101 ?_
  refine ev_ic_eq (pc := 103) (tgt := 112) (by decide) dX10_readPacket_103 (fun c106 => ?_) (fun c106 => ?_)
  · replace h105 := qi_t h105 c106
    exact ev_weak (qL_s (qL_n (qL_s (qL_n (qL_s qL_nil))))) (e_X10_readPacket_112 h105)
  · replace h105 := qi_f h105 c106
    refine ev_iload_n (pc := 106) (i := 3) rfl rfl dX10_readPacket_106 ?_
    refine ev_bipush (pc := 107) (v := 17) (by decide) dX10_readPacket_107 ?_
    refine ev_ic_ne (pc := 109) (tgt := 130) (by decide) dX10_readPacket_109 (fun c126 => ?_) (fun c126 => ?_)
    · replace h105 := qi_f h105 c126
      refine ev_iload_n (pc := 130) (i := 3) rfl rfl dX10_readPacket_130 ?_
      refine ev_iconst (pc := 131) (v := 1) (by decide) dX10_readPacket_131 ?_
      refine ev_ic_ne (pc := 132) (tgt := 157) (by decide) dX10_readPacket_132 (fun c128 => ?_) (fun c128 => ?_)
      · replace h105 := qi_f h105 c128
        exact ev_return (pc := 157) rfl (qRU_eq h105) dX10_readPacket_157
      · replace h105 := qi_t h105 c128
        refine ev_aload_n (pc := 135) (i := 2) rfl rfl rfl dX10_readPacket_135 ?_
        obtain ⟨x130, S131, e132, h133⟩ := qc_el h105; clear h105
        refine xv_callV (pc := 136) (st := []) (as := []) (v := (some (.int x130))) (S' := S131) ok_X3_isEcho (e_X3_isEcho e132) (is_sI (is_wJ (isb_el g91) e101) e104) (by decide) rfl (Nat.le_of_ble_eq_true rfl) rfl gw_1066 dX10_readPacket_136 ?_
        refine ev_if_eq (pc := 139) (tgt := 157) (by decide) dX10_readPacket_139 (fun c134 => ?_) (fun c134 => ?_)
        · replace h133 := qi_t h133 c134
          exact ev_return (pc := 157) rfl (qRU_eq h133) dX10_readPacket_157
        · replace h133 := qi_f h133 c134
          refine ev_aload_n (pc := 142) (i := 2) rfl rfl rfl dX10_readPacket_142 ?_
          obtain ⟨g136, h137⟩ := qk_el h133; clear h133
          obtain ⟨b138, e139, h140⟩ := qP_el h137; clear h137
          refine xv_getP (pc := 143) fn_200 (isb_el g136) e139 gw_269 dX10_readPacket_143 ?_
          refine ev_iconst (pc := 146) (v := 5) (by decide) dX10_readPacket_146 ?_
          refine ev_aload_n (pc := 147) (i := 0) rfl rfl rfl dX10_readPacket_147 ?_
          refine ev_iload (pc := 148) (i := 4) rfl dX10_readPacket_148 ?_
          refine ev_iconst (pc := 150) (v := 4) (by decide) dX10_readPacket_150 ?_
          refine ev_iadd (pc := 151)  dX10_readPacket_151 ?_
          obtain ⟨g141, h142⟩ := qk_el h140; clear h140
          obtain ⟨x143, S144, e145, h146⟩ := qc_el h142; clear h142
          refine xv_callV (pc := 152) (st := [.int 5, .ref b138]) (as := [.int (l4 + 4)]) (v := (some (.int x143))) (S' := S144) ok_X2_pair (e_X2_pair e145) (isb_el g141) (by decide) rfl (Nat.le_of_ble_eq_true rfl) rfl gw_1030 dX10_readPacket_152 ?_
          refine ev_i2l (pc := 155)  dX10_readPacket_155 ?_
          obtain ⟨g147, h148⟩ := qk_el h146; clear h146
          obtain ⟨g149, h150⟩ := qk_el h148; clear h148
          obtain ⟨S151, e152, h153⟩ := qv_el h150; clear h150
          refine yv_last (pc := 156) (isb_el g147) (inb_el g149) e152 dX10_readPacket_156 ?_
          exact ev_return (pc := 157) rfl (qRU_eq h153) dX10_readPacket_157
    · replace h105 := qi_t h105 c126
      exact ev_weak (qL_s (qL_n (qL_s (qL_n (qL_s qL_nil))))) (e_X10_readPacket_112 h105)
theorem e_X10_readPacket {X : gk_X} {F : Nat} {S : gk_S} {p0 : Nat} {p1 : Int32} {p2 : Nat} {r : (Unit × gk_S)} (h0 : f_X10_readPacket F S p0 p1 p2 = some r) : EvM X m_X10_readPacket 4 0 0 [.ref p0, .int p1, .ref p2] S (qRU r) := by
  unfold f_X10_readPacket at h0
  refine ev_method (by decide +kernel) rfl rfl (Nat.le_of_ble_eq_true rfl) ?_
  show EvW X m_X10_readPacket 4 0 0 0 [some (.ref p0), some (.int p1), some (.ref p2), none, none] [] S _
  refine ev_aload_n (pc := 0) (i := 0) rfl rfl rfl dX10_readPacket_0 ?_
  refine ev_iload_n (pc := 1) (i := 1) rfl rfl dX10_readPacket_1 ?_
  refine ev_bipush (pc := 2) (v := 9) (by decide) dX10_readPacket_2 ?_
  refine ev_iadd (pc := 4)  dX10_readPacket_4 ?_
  obtain ⟨g1, h2⟩ := qk_el h0; clear h0
  obtain ⟨x3, S4, e5, h6⟩ := qc_el h2; clear h2
  refine xv_callV (pc := 5) (st := []) (as := [.int (p1 + 9)]) (v := (some (.int x3))) (S' := S4) ok_X2_at (e_X2_at e5) (isb_el g1) (by decide) rfl (Nat.le_of_ble_eq_true rfl) rfl gw_1023 dX10_readPacket_5 ?_
  refine ev_istore_n (pc := 8) (L' := [some (.ref p0), some (.int p1), some (.ref p2), some (.int x3), none]) (i := 3) rfl (by decide) rfl rfl dX10_readPacket_8 ?_
  refine ev_iload_n (pc := 9) (i := 1) rfl rfl dX10_readPacket_9 ?_
  refine ev_aload_n (pc := 10) (i := 0) rfl rfl rfl dX10_readPacket_10 ?_
  refine ev_iload_n (pc := 11) (i := 1) rfl rfl dX10_readPacket_11 ?_
  obtain ⟨g7, h8⟩ := qk_el h6; clear h6
  obtain ⟨x9, S10, e11, h12⟩ := qc_el h8; clear h8
  refine xv_callV (pc := 12) (st := [.int p1]) (as := [.int p1]) (v := (some (.int x9))) (S' := S10) ok_X2_at (e_X2_at e11) (isb_el g7) (by decide) rfl (Nat.le_of_ble_eq_true rfl) rfl gw_1023 dX10_readPacket_12 ?_
  obtain ⟨x13, S14, e15, h16⟩ := qc_el h12; clear h12
  refine xv_callS (pc := 15) (st := [.int p1]) (as := [.int x9]) (v := (some (.int x13))) (S' := S14) ok_X10_headerOf (e_X10_headerOf e15) (by decide) rfl (Nat.le_of_ble_eq_true rfl) rfl gw_1027 dX10_readPacket_15 ?_
  refine ev_iadd (pc := 18)  dX10_readPacket_18 ?_
  refine ev_istore (pc := 19) (L' := [some (.ref p0), some (.int p1), some (.ref p2), some (.int x3), some (.int (p1 + x13))]) (i := 4) (by decide) rfl rfl dX10_readPacket_19 ?_
  refine ev_aload_n (pc := 21) (i := 2) rfl rfl rfl dX10_readPacket_21 ?_
  obtain ⟨g17, h18⟩ := qk_el h16; clear h16
  obtain ⟨b19, e20, h21⟩ := qP_el h18; clear h18
  refine xv_getP (pc := 22) fn_200 (isb_el g17) e20 gw_269 dX10_readPacket_22 ?_
  refine ev_iconst (pc := 25) (v := 0) (by decide) dX10_readPacket_25 ?_
  refine ev_lconst (pc := 26) (v := 0) (by decide) dX10_readPacket_26 ?_
  obtain ⟨g22, h23⟩ := qk_el h21; clear h21
  obtain ⟨g24, h25⟩ := qk_el h23; clear h23
  obtain ⟨S26, e27, h28⟩ := qv_el h25; clear h25
  refine yv_last (pc := 27) (isb_el g22) (inb_el g24) e27 dX10_readPacket_27 ?_
  refine ev_aload_n (pc := 28) (i := 2) rfl rfl rfl dX10_readPacket_28 ?_
  obtain ⟨b29, e30, h31⟩ := qP_el h28; clear h28
  refine xv_getP (pc := 29) fn_200 (is_wJ (isb_el g17) e27) e30 gw_269 dX10_readPacket_29 ?_
  refine ev_iconst (pc := 32) (v := 1) (by decide) dX10_readPacket_32 ?_
  refine ev_iload_n (pc := 33) (i := 3) rfl rfl dX10_readPacket_33 ?_
  refine ev_i2l (pc := 34)  dX10_readPacket_34 ?_
  obtain ⟨g32, h33⟩ := qk_el h31; clear h31
  obtain ⟨g34, h35⟩ := qk_el h33; clear h33
  obtain ⟨S36, e37, h38⟩ := qv_el h35; clear h35
  refine yv_last (pc := 35) (isb_el g32) (inb_el g34) e37 dX10_readPacket_35 ?_
  refine ev_aload_n (pc := 36) (i := 2) rfl rfl rfl dX10_readPacket_36 ?_
  obtain ⟨b39, e40, h41⟩ := qP_el h38; clear h38
  refine xv_getP (pc := 37) fn_200 (is_wJ (is_wJ (isb_el g17) e27) e37) e40 gw_269 dX10_readPacket_37 ?_
  refine ev_iconst (pc := 40) (v := 2) (by decide) dX10_readPacket_40 ?_
  refine ev_aload_n (pc := 41) (i := 0) rfl rfl rfl dX10_readPacket_41 ?_
  refine ev_iload_n (pc := 42) (i := 1) rfl rfl dX10_readPacket_42 ?_
  refine ev_bipush (pc := 43) (v := 12) (by decide) dX10_readPacket_43 ?_
  refine ev_iadd (pc := 45)  dX10_readPacket_45 ?_
  obtain ⟨g42, h43⟩ := qk_el h41; clear h41
  obtain ⟨x44, S45, e46, h47⟩ := qc_el h43; clear h43
  refine xv_callV (pc := 46) (st := [.int 2, .ref b39]) (as := [.int (p1 + 12)]) (v := (some (.long x44))) (S' := S45) ok_X2_quad (e_X2_quad e46) (isb_el g42) (by decide) rfl (Nat.le_of_ble_eq_true rfl) rfl gw_1060 dX10_readPacket_46 ?_
  obtain ⟨g48, h49⟩ := qk_el h47; clear h47
  obtain ⟨g50, h51⟩ := qk_el h49; clear h49
  obtain ⟨S52, e53, h54⟩ := qv_el h51; clear h51
  refine yv_last (pc := 49) (isb_el g48) (inb_el g50) e53 dX10_readPacket_49 ?_
  refine ev_aload_n (pc := 50) (i := 2) rfl rfl rfl dX10_readPacket_50 ?_
  obtain ⟨g55, h56⟩ := qk_el h54; clear h54
  obtain ⟨b57, e58, h59⟩ := qP_el h56; clear h56
  refine xv_getP (pc := 51) fn_200 (isb_el g55) e58 gw_269 dX10_readPacket_51 ?_
  refine ev_iconst (pc := 54) (v := 3) (by decide) dX10_readPacket_54 ?_
  refine ev_aload_n (pc := 55) (i := 0) rfl rfl rfl dX10_readPacket_55 ?_
  refine ev_iload_n (pc := 56) (i := 1) rfl rfl dX10_readPacket_56 ?_
  refine ev_bipush (pc := 57) (v := 16) (by decide) dX10_readPacket_57 ?_
  refine ev_iadd (pc := 59)  dX10_readPacket_59 ?_
  obtain ⟨g60, h61⟩ := qk_el h59; clear h59
  obtain ⟨x62, S63, e64, h65⟩ := qc_el h61; clear h61
  refine xv_callV (pc := 60) (st := [.int 3, .ref b57]) (as := [.int (p1 + 16)]) (v := (some (.long x62))) (S' := S63) ok_X2_quad (e_X2_quad e64) (isb_el g60) (by decide) rfl (Nat.le_of_ble_eq_true rfl) rfl gw_1060 dX10_readPacket_60 ?_
  obtain ⟨g66, h67⟩ := qk_el h65; clear h65
  obtain ⟨g68, h69⟩ := qk_el h67; clear h67
  obtain ⟨S70, e71, h72⟩ := qv_el h69; clear h69
  refine yv_last (pc := 63) (isb_el g66) (inb_el g68) e71 dX10_readPacket_63 ?_
  refine ev_aload_n (pc := 64) (i := 2) rfl rfl rfl dX10_readPacket_64 ?_
  obtain ⟨g73, h74⟩ := qk_el h72; clear h72
  obtain ⟨b75, e76, h77⟩ := qP_el h74; clear h74
  refine xv_getP (pc := 65) fn_200 (isb_el g73) e76 gw_269 dX10_readPacket_65 ?_
  refine ev_iconst (pc := 68) (v := 4) (by decide) dX10_readPacket_68 ?_
  refine ev_iload_n (pc := 69) (i := 3) rfl rfl dX10_readPacket_69 ?_
  obtain ⟨x78, S79, e80, h81⟩ := qc_el h77; clear h77
  refine xv_callS (pc := 70) (st := [.int 4, .ref b75]) (as := [.int x3]) (v := (some (.int x78))) (S' := S79) ok_X10_hasBody (e_X10_hasBody e80) (by decide) rfl (Nat.le_of_ble_eq_true rfl) rfl gw_1045 dX10_readPacket_70 ?_
  refine ev_if_eq (pc := 73) (tgt := 86) (by decide) dX10_readPacket_73 (fun c82 => ?_) (fun c82 => ?_)
  · replace h81 := qi_t h81 c82
    refine ev_lconst (pc := 86) (v := 0) (by decide) dX10_readPacket_86 ?_
    exact ev_weak (qL_s (qL_n (qL_s (qL_s (qL_s qL_nil))))) (e_X10_readPacket_87 h81)
  · replace h81 := qi_f h81 c82
    refine ev_aload_n (pc := 76) (i := 0) rfl rfl rfl dX10_readPacket_76 ?_
    refine ev_iload (pc := 77) (i := 4) rfl dX10_readPacket_77 ?_
    obtain ⟨g154, h155⟩ := qk_el h81; clear h81
    obtain ⟨x156, S157, e158, h159⟩ := qc_el h155; clear h155
    refine xv_callV (pc := 79) (st := [.int 4, .ref b75]) (as := [.int (p1 + x13)]) (v := (some (.int x156))) (S' := S157) ok_X2_pair (e_X2_pair e158) (isb_el g154) (by decide) rfl (Nat.le_of_ble_eq_true rfl) rfl gw_1030 dX10_readPacket_79 ?_
    refine ev_i2l (pc := 82)  dX10_readPacket_82 ?_
    refine ev_goto (pc := 83) (tgt := 87) (by decide) dX10_readPacket_83 ?_
    exact ev_weak (qL_s (qL_n (qL_s (qL_s (qL_s qL_nil))))) (e_X10_readPacket_87 h159)
theorem dX10_flagsOf_0 : decode cX10_flagsOf 0 = .ok (.aload_n 0, 1) := by decide +kernel
theorem dX10_flagsOf_1 : decode cX10_flagsOf 1 = .ok (.bipush 9, 2) := by decide +kernel
theorem dX10_flagsOf_3 : decode cX10_flagsOf 3 = .ok (.invokevirtual 17, 3) := by decide +kernel
theorem dX10_flagsOf_6 : decode cX10_flagsOf 6 = .ok (.bipush 6, 2) := by decide +kernel
theorem dX10_flagsOf_8 : decode cX10_flagsOf 8 = .ok (.if_icmp .ne 24, 3) := by decide +kernel
theorem dX10_flagsOf_11 : decode cX10_flagsOf 11 = .ok (.aload_n 0, 1) := by decide +kernel
theorem dX10_flagsOf_12 : decode cX10_flagsOf 12 = .ok (.aload_n 0, 1) := by decide +kernel
theorem dX10_flagsOf_13 : decode cX10_flagsOf 13 = .ok (.iconst 0, 1) := by decide +kernel
theorem dX10_flagsOf_14 : decode cX10_flagsOf 14 = .ok (.invokevirtual 17, 3) := by decide +kernel
theorem dX10_flagsOf_17 : decode cX10_flagsOf 17 = .ok (.invokestatic 25, 3) := by decide +kernel
theorem dX10_flagsOf_20 : decode cX10_flagsOf 20 = .ok (.bipush 13, 2) := by decide +kernel
theorem dX10_flagsOf_22 : decode cX10_flagsOf 22 = .ok (.iadd, 1) := by decide +kernel
theorem dX10_flagsOf_23 : decode cX10_flagsOf 23 = .ok (.invokevirtual 17, 3) := by decide +kernel
theorem dX10_flagsOf_26 : decode cX10_flagsOf 26 = .ok (.bipush 63, 2) := by decide +kernel
theorem dX10_flagsOf_28 : decode cX10_flagsOf 28 = .ok (.iand, 1) := by decide +kernel
theorem dX10_flagsOf_29 : decode cX10_flagsOf 29 = .ok (.goto 4, 3) := by decide +kernel
theorem dX10_flagsOf_32 : decode cX10_flagsOf 32 = .ok (.iconst 0, 1) := by decide +kernel
theorem dX10_flagsOf_33 : decode cX10_flagsOf 33 = .ok (.ireturn, 1) := by decide +kernel
theorem e_X10_flagsOf {X : gk_X} {F : Nat} {S : gk_S} {p0 : Nat} {r : (Int32 × gk_S)} (h0 : f_X10_flagsOf F S p0 = some r) : EvM X m_X10_flagsOf 2 0 0 [.ref p0] S (qRI r) := by
  unfold f_X10_flagsOf at h0
  refine ev_method (by decide +kernel) rfl rfl (Nat.le_of_ble_eq_true rfl) ?_
  show EvW X m_X10_flagsOf 2 0 0 0 [some (.ref p0)] [] S _
  refine ev_aload_n (pc := 0) (i := 0) rfl rfl rfl dX10_flagsOf_0 ?_
  refine ev_bipush (pc := 1) (v := 9) (by decide) dX10_flagsOf_1 ?_
  obtain ⟨g1, h2⟩ := qk_el h0; clear h0
  obtain ⟨x3, S4, e5, h6⟩ := qc_el h2; clear h2
  refine xv_callV (pc := 3) (st := []) (as := [.int 9]) (v := (some (.int x3))) (S' := S4) ok_X2_at (e_X2_at e5) (isb_el g1) (by decide) rfl (Nat.le_of_ble_eq_true rfl) rfl gw_1023 dX10_flagsOf_3 ?_
  refine ev_bipush (pc := 6) (v := 6) (by decide) dX10_flagsOf_6 ?_
  refine ev_ic_ne (pc := 8) (tgt := 32) (by decide) dX10_flagsOf_8 (fun c7 => ?_) (fun c7 => ?_)
  · replace h6 := qi_f h6 c7
    refine ev_iconst (pc := 32) (v := 0) (by decide) dX10_flagsOf_32 ?_
    exact ev_ireturn (pc := 33) rfl (nar_int _) (qRI_eq h6) dX10_flagsOf_33
  · replace h6 := qi_t h6 c7
    refine ev_aload_n (pc := 11) (i := 0) rfl rfl rfl dX10_flagsOf_11 ?_
    refine ev_aload_n (pc := 12) (i := 0) rfl rfl rfl dX10_flagsOf_12 ?_
    refine ev_iconst (pc := 13) (v := 0) (by decide) dX10_flagsOf_13 ?_
    obtain ⟨g9, h10⟩ := qk_el h6; clear h6
    obtain ⟨x11, S12, e13, h14⟩ := qc_el h10; clear h10
    refine xv_callV (pc := 14) (st := [.ref p0]) (as := [.int 0]) (v := (some (.int x11))) (S' := S12) ok_X2_at (e_X2_at e13) (isb_el g9) (by decide) rfl (Nat.le_of_ble_eq_true rfl) rfl gw_1023 dX10_flagsOf_14 ?_
    obtain ⟨x15, S16, e17, h18⟩ := qc_el h14; clear h14
    refine xv_callS (pc := 17) (st := [.ref p0]) (as := [.int x11]) (v := (some (.int x15))) (S' := S16) ok_X10_headerOf (e_X10_headerOf e17) (by decide) rfl (Nat.le_of_ble_eq_true rfl) rfl gw_1027 dX10_flagsOf_17 ?_
    refine ev_bipush (pc := 20) (v := 13) (by decide) dX10_flagsOf_20 ?_
    refine ev_iadd (pc := 22)  dX10_flagsOf_22 ?_
    obtain ⟨g19, h20⟩ := qk_el h18; clear h18
    obtain ⟨x21, S22, e23, h24⟩ := qc_el h20; clear h20
    refine xv_callV (pc := 23) (st := []) (as := [.int (x15 + 13)]) (v := (some (.int x21))) (S' := S22) ok_X2_at (e_X2_at e23) (isb_el g19) (by decide) rfl (Nat.le_of_ble_eq_true rfl) rfl gw_1023 dX10_flagsOf_23 ?_
    refine ev_bipush (pc := 26) (v := 63) (by decide) dX10_flagsOf_26 ?_
    refine ev_iand (pc := 28)  dX10_flagsOf_28 ?_
    refine ev_goto (pc := 29) (tgt := 33) (by decide) dX10_flagsOf_29 ?_
    exact ev_ireturn (pc := 33) rfl (nar_int _) (qRI_eq h24) dX10_flagsOf_33
theorem dX10_isReport_0 : decode cX10_isReport 0 = .ok (.iload_n 0, 1) := by decide +kernel
theorem dX10_isReport_1 : decode cX10_isReport 1 = .ok (.iconst 3, 1) := by decide +kernel
theorem dX10_isReport_2 : decode cX10_isReport 2 = .ok (.if_icmp .eq 25, 3) := by decide +kernel
theorem dX10_isReport_5 : decode cX10_isReport 5 = .ok (.iload_n 0, 1) := by decide +kernel
theorem dX10_isReport_6 : decode cX10_isReport 6 = .ok (.iconst 4, 1) := by decide +kernel
theorem dX10_isReport_7 : decode cX10_isReport 7 = .ok (.if_icmp .eq 20, 3) := by decide +kernel
theorem dX10_isReport_10 : decode cX10_isReport 10 = .ok (.iload_n 0, 1) := by decide +kernel
theorem dX10_isReport_11 : decode cX10_isReport 11 = .ok (.iconst 5, 1) := by decide +kernel
theorem dX10_isReport_12 : decode cX10_isReport 12 = .ok (.if_icmp .eq 15, 3) := by decide +kernel
theorem dX10_isReport_15 : decode cX10_isReport 15 = .ok (.iload_n 0, 1) := by decide +kernel
theorem dX10_isReport_16 : decode cX10_isReport 16 = .ok (.bipush 11, 2) := by decide +kernel
theorem dX10_isReport_18 : decode cX10_isReport 18 = .ok (.if_icmp .eq 9, 3) := by decide +kernel
theorem dX10_isReport_21 : decode cX10_isReport 21 = .ok (.iload_n 0, 1) := by decide +kernel
theorem dX10_isReport_22 : decode cX10_isReport 22 = .ok (.bipush 12, 2) := by decide +kernel
theorem dX10_isReport_24 : decode cX10_isReport 24 = .ok (.if_icmp .ne 7, 3) := by decide +kernel
theorem dX10_isReport_27 : decode cX10_isReport 27 = .ok (.iconst 1, 1) := by decide +kernel
theorem dX10_isReport_28 : decode cX10_isReport 28 = .ok (.goto 4, 3) := by decide +kernel
theorem dX10_isReport_31 : decode cX10_isReport 31 = .ok (.iconst 0, 1) := by decide +kernel
theorem dX10_isReport_32 : decode cX10_isReport 32 = .ok (.ireturn, 1) := by decide +kernel
theorem e_X10_isReport {X : gk_X} {F : Nat} {S : gk_S} {p0 : Int32} {r : (Int32 × gk_S)} (h0 : f_X10_isReport F S p0 = some r) : EvM X m_X10_isReport 1 0 0 [.int p0] S (qRI r) := by
  unfold f_X10_isReport at h0
  refine ev_method (by decide +kernel) rfl rfl (Nat.le_of_ble_eq_true rfl) ?_
  show EvW X m_X10_isReport 1 0 0 0 [some (.int p0)] [] S _
  refine ev_iload_n (pc := 0) (i := 0) rfl rfl dX10_isReport_0 ?_
  refine ev_iconst (pc := 1) (v := 3) (by decide) dX10_isReport_1 ?_
  refine ev_ic_eq (pc := 2) (tgt := 27) (by decide) dX10_isReport_2 (fun c1 => ?_) (fun c1 => ?_)
  · replace h0 := qi_t h0 c1
    refine ev_iconst (pc := 27) (v := 1) (by decide) dX10_isReport_27 ?_
    refine ev_goto (pc := 28) (tgt := 32) (by decide) dX10_isReport_28 ?_
    exact ev_ireturn (pc := 32) rfl rfl (qRI_eq h0) dX10_isReport_32
  · replace h0 := qi_f h0 c1
    refine ev_iload_n (pc := 5) (i := 0) rfl rfl dX10_isReport_5 ?_
    refine ev_iconst (pc := 6) (v := 4) (by decide) dX10_isReport_6 ?_
    refine ev_ic_eq (pc := 7) (tgt := 27) (by decide) dX10_isReport_7 (fun c3 => ?_) (fun c3 => ?_)
    · replace h0 := qi_t h0 c3
      refine ev_iconst (pc := 27) (v := 1) (by decide) dX10_isReport_27 ?_
      refine ev_goto (pc := 28) (tgt := 32) (by decide) dX10_isReport_28 ?_
      exact ev_ireturn (pc := 32) rfl rfl (qRI_eq h0) dX10_isReport_32
    · replace h0 := qi_f h0 c3
      refine ev_iload_n (pc := 10) (i := 0) rfl rfl dX10_isReport_10 ?_
      refine ev_iconst (pc := 11) (v := 5) (by decide) dX10_isReport_11 ?_
      refine ev_ic_eq (pc := 12) (tgt := 27) (by decide) dX10_isReport_12 (fun c5 => ?_) (fun c5 => ?_)
      · replace h0 := qi_t h0 c5
        refine ev_iconst (pc := 27) (v := 1) (by decide) dX10_isReport_27 ?_
        refine ev_goto (pc := 28) (tgt := 32) (by decide) dX10_isReport_28 ?_
        exact ev_ireturn (pc := 32) rfl rfl (qRI_eq h0) dX10_isReport_32
      · replace h0 := qi_f h0 c5
        refine ev_iload_n (pc := 15) (i := 0) rfl rfl dX10_isReport_15 ?_
        refine ev_bipush (pc := 16) (v := 11) (by decide) dX10_isReport_16 ?_
        refine ev_ic_eq (pc := 18) (tgt := 27) (by decide) dX10_isReport_18 (fun c7 => ?_) (fun c7 => ?_)
        · replace h0 := qi_t h0 c7
          refine ev_iconst (pc := 27) (v := 1) (by decide) dX10_isReport_27 ?_
          refine ev_goto (pc := 28) (tgt := 32) (by decide) dX10_isReport_28 ?_
          exact ev_ireturn (pc := 32) rfl rfl (qRI_eq h0) dX10_isReport_32
        · replace h0 := qi_f h0 c7
          refine ev_iload_n (pc := 21) (i := 0) rfl rfl dX10_isReport_21 ?_
          refine ev_bipush (pc := 22) (v := 12) (by decide) dX10_isReport_22 ?_
          refine ev_ic_ne (pc := 24) (tgt := 31) (by decide) dX10_isReport_24 (fun c9 => ?_) (fun c9 => ?_)
          · replace h0 := qi_f h0 c9
            refine ev_iconst (pc := 31) (v := 0) (by decide) dX10_isReport_31 ?_
            exact ev_ireturn (pc := 32) rfl rfl (qRI_eq h0) dX10_isReport_32
          · replace h0 := qi_t h0 c9
            refine ev_iconst (pc := 27) (v := 1) (by decide) dX10_isReport_27 ?_
            refine ev_goto (pc := 28) (tgt := 32) (by decide) dX10_isReport_28 ?_
            exact ev_ireturn (pc := 32) rfl rfl (qRI_eq h0) dX10_isReport_32
theorem dX10_tellsOf_0 : decode cX10_tellsOf 0 = .ok (.aload_n 0, 1) := by decide +kernel
theorem dX10_tellsOf_1 : decode cX10_tellsOf 1 = .ok (.iconst 0, 1) := by decide +kernel
theorem dX10_tellsOf_2 : decode cX10_tellsOf 2 = .ok (.invokevirtual 17, 3) := by decide +kernel
theorem dX10_tellsOf_5 : decode cX10_tellsOf 5 = .ok (.invokestatic 25, 3) := by decide +kernel
theorem dX10_tellsOf_8 : decode cX10_tellsOf 8 = .ok (.istore_n 2, 1) := by decide +kernel
theorem dX10_tellsOf_9 : decode cX10_tellsOf 9 = .ok (.aload_n 0, 1) := by decide +kernel
theorem dX10_tellsOf_10 : decode cX10_tellsOf 10 = .ok (.bipush 9, 2) := by decide +kernel
theorem dX10_tellsOf_12 : decode cX10_tellsOf 12 = .ok (.invokevirtual 17, 3) := by decide +kernel
theorem dX10_tellsOf_15 : decode cX10_tellsOf 15 = .ok (.iconst 1, 1) := by decide +kernel
theorem dX10_tellsOf_16 : decode cX10_tellsOf 16 = .ok (.if_icmp .ne 14, 3) := by decide +kernel
theorem dX10_tellsOf_19 : decode cX10_tellsOf 19 = .ok (.aload_n 0, 1) := by decide +kernel
theorem dX10_tellsOf_20 : decode cX10_tellsOf 20 = .ok (.iload_n 2, 1) := by decide +kernel
theorem dX10_tellsOf_21 : decode cX10_tellsOf 21 = .ok (.invokevirtual 17, 3) := by decide +kernel
theorem dX10_tellsOf_24 : decode cX10_tellsOf 24 = .ok (.invokestatic 66, 3) := by decide +kernel
theorem dX10_tellsOf_27 : decode cX10_tellsOf 27 = .ok (.ifCond .ne 5, 3) := by decide +kernel
theorem dX10_tellsOf_30 : decode cX10_tellsOf 30 = .ok (.iconst 0, 1) := by decide +kernel
theorem dX10_tellsOf_31 : decode cX10_tellsOf 31 = .ok (.ireturn, 1) := by decide +kernel
theorem dX10_tellsOf_32 : decode cX10_tellsOf 32 = .ok (.iload_n 2, 1) := by decide +kernel
theorem dX10_tellsOf_33 : decode cX10_tellsOf 33 = .ok (.bipush 8, 2) := by decide +kernel
theorem dX10_tellsOf_35 : decode cX10_tellsOf 35 = .ok (.iadd, 1) := by decide +kernel
theorem dX10_tellsOf_36 : decode cX10_tellsOf 36 = .ok (.istore_n 3, 1) := by decide +kernel
theorem dX10_tellsOf_37 : decode cX10_tellsOf 37 = .ok (.aload_n 0, 1) := by decide +kernel
theorem dX10_tellsOf_38 : decode cX10_tellsOf 38 = .ok (.getfield 9, 3) := by decide +kernel
theorem dX10_tellsOf_41 : decode cX10_tellsOf 41 = .ok (.iload_n 3, 1) := by decide +kernel
theorem dX10_tellsOf_42 : decode cX10_tellsOf 42 = .ok (.isub, 1) := by decide +kernel
theorem dX10_tellsOf_43 : decode cX10_tellsOf 43 = .ok (.istore 4, 2) := by decide +kernel
theorem dX10_tellsOf_45 : decode cX10_tellsOf 45 = .ok (.iload 4, 2) := by decide +kernel
theorem dX10_tellsOf_47 : decode cX10_tellsOf 47 = .ok (.bipush 28, 2) := by decide +kernel
theorem dX10_tellsOf_49 : decode cX10_tellsOf 49 = .ok (.if_icmp .lt 30, 3) := by decide +kernel
theorem dX10_tellsOf_52 : decode cX10_tellsOf 52 = .ok (.aload_n 0, 1) := by decide +kernel
theorem dX10_tellsOf_53 : decode cX10_tellsOf 53 = .ok (.iload_n 3, 1) := by decide +kernel
theorem dX10_tellsOf_54 : decode cX10_tellsOf 54 = .ok (.invokevirtual 17, 3) := by decide +kernel
theorem dX10_tellsOf_57 : decode cX10_tellsOf 57 = .ok (.invokestatic 21, 3) := by decide +kernel
theorem dX10_tellsOf_60 : decode cX10_tellsOf 60 = .ok (.ifCond .eq 19, 3) := by decide +kernel
theorem dX10_tellsOf_63 : decode cX10_tellsOf 63 = .ok (.iload 4, 2) := by decide +kernel
theorem dX10_tellsOf_65 : decode cX10_tellsOf 65 = .ok (.aload_n 0, 1) := by decide +kernel
theorem dX10_tellsOf_66 : decode cX10_tellsOf 66 = .ok (.iload_n 3, 1) := by decide +kernel
theorem dX10_tellsOf_67 : decode cX10_tellsOf 67 = .ok (.invokevirtual 17, 3) := by decide +kernel
theorem dX10_tellsOf_70 : decode cX10_tellsOf 70 = .ok (.invokestatic 25, 3) := by decide +kernel
theorem dX10_tellsOf_73 : decode cX10_tellsOf 73 = .ok (.bipush 8, 2) := by decide +kernel
theorem dX10_tellsOf_75 : decode cX10_tellsOf 75 = .ok (.iadd, 1) := by decide +kernel
theorem dX10_tellsOf_76 : decode cX10_tellsOf 76 = .ok (.if_icmp .ge 5, 3) := by decide +kernel
theorem dX10_tellsOf_79 : decode cX10_tellsOf 79 = .ok (.iconst 0, 1) := by decide +kernel
theorem dX10_tellsOf_80 : decode cX10_tellsOf 80 = .ok (.ireturn, 1) := by decide +kernel
theorem dX10_tellsOf_81 : decode cX10_tellsOf 81 = .ok (.aload_n 0, 1) := by decide +kernel
theorem dX10_tellsOf_82 : decode cX10_tellsOf 82 = .ok (.iload_n 3, 1) := by decide +kernel
theorem dX10_tellsOf_83 : decode cX10_tellsOf 83 = .ok (.aload_n 1, 1) := by decide +kernel
theorem dX10_tellsOf_84 : decode cX10_tellsOf 84 = .ok (.invokestatic 69, 3) := by decide +kernel
theorem dX10_tellsOf_87 : decode cX10_tellsOf 87 = .ok (.iconst 1, 1) := by decide +kernel
theorem dX10_tellsOf_88 : decode cX10_tellsOf 88 = .ok (.ireturn, 1) := by decide +kernel
theorem e_X10_tellsOf {X : gk_X} {F : Nat} {S : gk_S} {p0 : Nat} {p1 : Nat} {r : (Int32 × gk_S)} (h0 : f_X10_tellsOf F S p0 p1 = some r) : EvM X m_X10_tellsOf 5 0 0 [.ref p0, .ref p1] S (qRI r) := by
  unfold f_X10_tellsOf at h0
  refine ev_method (by decide +kernel) rfl rfl (Nat.le_of_ble_eq_true rfl) ?_
  show EvW X m_X10_tellsOf 5 0 0 0 [some (.ref p0), some (.ref p1), none, none, none] [] S _
  refine ev_aload_n (pc := 0) (i := 0) rfl rfl rfl dX10_tellsOf_0 ?_
  refine ev_iconst (pc := 1) (v := 0) (by decide) dX10_tellsOf_1 ?_
  obtain ⟨g1, h2⟩ := qk_el h0; clear h0
  obtain ⟨x3, S4, e5, h6⟩ := qc_el h2; clear h2
  refine xv_callV (pc := 2) (st := []) (as := [.int 0]) (v := (some (.int x3))) (S' := S4) ok_X2_at (e_X2_at e5) (isb_el g1) (by decide) rfl (Nat.le_of_ble_eq_true rfl) rfl gw_1023 dX10_tellsOf_2 ?_
  obtain ⟨x7, S8, e9, h10⟩ := qc_el h6; clear h6
  refine xv_callS (pc := 5) (st := []) (as := [.int x3]) (v := (some (.int x7))) (S' := S8) ok_X10_headerOf (e_X10_headerOf e9) (by decide) rfl (Nat.le_of_ble_eq_true rfl) rfl gw_1027 dX10_tellsOf_5 ?_
  refine ev_istore_n (pc := 8) (L' := [some (.ref p0), some (.ref p1), some (.int x7), none, none]) (i := 2) rfl (by decide) rfl rfl dX10_tellsOf_8 ?_
  refine ev_aload_n (pc := 9) (i := 0) rfl rfl rfl dX10_tellsOf_9 ?_
  refine ev_bipush (pc := 10) (v := 9) (by decide) dX10_tellsOf_10 ?_
  obtain ⟨g11, h12⟩ := qk_el h10; clear h10
  obtain ⟨x13, S14, e15, h16⟩ := qc_el h12; clear h12
  refine xv_callV (pc := 12) (st := []) (as := [.int 9]) (v := (some (.int x13))) (S' := S14) ok_X2_at (e_X2_at e15) (isb_el g11) (by decide) rfl (Nat.le_of_ble_eq_true rfl) rfl gw_1023 dX10_tellsOf_12 ?_
  refine ev_iconst (pc := 15) (v := 1) (by decide) dX10_tellsOf_15 ?_
  refine ev_ic_ne (pc := 16) (tgt := 30) (by decide) dX10_tellsOf_16 (fun c17 => ?_) (fun c17 => ?_)
  · replace h16 := qi_f h16 c17
    refine ev_iconst (pc := 30) (v := 0) (by decide) dX10_tellsOf_30 ?_
    exact ev_ireturn (pc := 31) rfl rfl (qRI_eq h16) dX10_tellsOf_31
  · replace h16 := qi_t h16 c17
    refine ev_aload_n (pc := 19) (i := 0) rfl rfl rfl dX10_tellsOf_19 ?_
    refine ev_iload_n (pc := 20) (i := 2) rfl rfl dX10_tellsOf_20 ?_
    obtain ⟨g19, h20⟩ := qk_el h16; clear h16
    obtain ⟨x21, S22, e23, h24⟩ := qc_el h20; clear h20
    refine xv_callV (pc := 21) (st := []) (as := [.int x7]) (v := (some (.int x21))) (S' := S22) ok_X2_at (e_X2_at e23) (isb_el g19) (by decide) rfl (Nat.le_of_ble_eq_true rfl) rfl gw_1023 dX10_tellsOf_21 ?_
    obtain ⟨x25, S26, e27, h28⟩ := qc_el h24; clear h24
    refine xv_callS (pc := 24) (st := []) (as := [.int x21]) (v := (some (.int x25))) (S' := S26) ok_X10_isReport (e_X10_isReport e27) (by decide) rfl (Nat.le_of_ble_eq_true rfl) rfl gw_1077 dX10_tellsOf_24 ?_
    refine ev_if_ne (pc := 27) (tgt := 32) (by decide) dX10_tellsOf_27 (fun c29 => ?_) (fun c29 => ?_)
    · replace h28 := qi_f h28 c29
      refine ev_iload_n (pc := 32) (i := 2) rfl rfl dX10_tellsOf_32 ?_
      refine ev_bipush (pc := 33) (v := 8) (by decide) dX10_tellsOf_33 ?_
      refine ev_iadd (pc := 35)  dX10_tellsOf_35 ?_
      refine ev_istore_n (pc := 36) (L' := [some (.ref p0), some (.ref p1), some (.int x7), some (.int (x7 + 8)), none]) (i := 3) rfl (by decide) rfl rfl dX10_tellsOf_36 ?_
      refine ev_aload_n (pc := 37) (i := 0) rfl rfl rfl dX10_tellsOf_37 ?_
      obtain ⟨g31, h32⟩ := qk_el h28; clear h28
      obtain ⟨x33, e34, h35⟩ := qv_el h32; clear h32
      refine xv_getIv (pc := 38) fn_101 (isb_el g31) e34 gw_41 dX10_tellsOf_38 ?_
      refine ev_iload_n (pc := 41) (i := 3) rfl rfl dX10_tellsOf_41 ?_
      refine ev_isub (pc := 42)  dX10_tellsOf_42 ?_
      refine ev_istore (pc := 43) (L' := [some (.ref p0), some (.ref p1), some (.int x7), some (.int (x7 + 8)), some (.int (x33 - (x7 + 8)))]) (i := 4) (by decide) rfl rfl dX10_tellsOf_43 ?_
      refine ev_iload (pc := 45) (i := 4) rfl dX10_tellsOf_45 ?_
      refine ev_bipush (pc := 47) (v := 28) (by decide) dX10_tellsOf_47 ?_
      refine ev_ic_lt (pc := 49) (tgt := 79) (by decide) dX10_tellsOf_49 (fun c36 => ?_) (fun c36 => ?_)
      · replace h35 := qi_t h35 c36
        refine ev_iconst (pc := 79) (v := 0) (by decide) dX10_tellsOf_79 ?_
        exact ev_ireturn (pc := 80) rfl rfl (qRI_eq h35) dX10_tellsOf_80
      · replace h35 := qi_f h35 c36
        refine ev_aload_n (pc := 52) (i := 0) rfl rfl rfl dX10_tellsOf_52 ?_
        refine ev_iload_n (pc := 53) (i := 3) rfl rfl dX10_tellsOf_53 ?_
        obtain ⟨x38, S39, e40, h41⟩ := qc_el h35; clear h35
        refine xv_callV (pc := 54) (st := []) (as := [.int (x7 + 8)]) (v := (some (.int x38))) (S' := S39) ok_X2_at (e_X2_at e40) (isb_el g31) (by decide) rfl (Nat.le_of_ble_eq_true rfl) rfl gw_1023 dX10_tellsOf_54 ?_
        obtain ⟨x42, S43, e44, h45⟩ := qc_el h41; clear h41
        refine xv_callS (pc := 57) (st := []) (as := [.int x38]) (v := (some (.int x42))) (S' := S43) ok_X10_isFirst (e_X10_isFirst e44) (by decide) rfl (Nat.le_of_ble_eq_true rfl) rfl gw_1024 dX10_tellsOf_57 ?_
        refine ev_if_eq (pc := 60) (tgt := 79) (by decide) dX10_tellsOf_60 (fun c46 => ?_) (fun c46 => ?_)
        · replace h45 := qi_t h45 c46
          refine ev_iconst (pc := 79) (v := 0) (by decide) dX10_tellsOf_79 ?_
          exact ev_ireturn (pc := 80) rfl rfl (qRI_eq h45) dX10_tellsOf_80
        · replace h45 := qi_f h45 c46
          refine ev_iload (pc := 63) (i := 4) rfl dX10_tellsOf_63 ?_
          refine ev_aload_n (pc := 65) (i := 0) rfl rfl rfl dX10_tellsOf_65 ?_
          refine ev_iload_n (pc := 66) (i := 3) rfl rfl dX10_tellsOf_66 ?_
          obtain ⟨g48, h49⟩ := qk_el h45; clear h45
          obtain ⟨x50, S51, e52, h53⟩ := qc_el h49; clear h49
          refine xv_callV (pc := 67) (st := [.int (x33 - (x7 + 8))]) (as := [.int (x7 + 8)]) (v := (some (.int x50))) (S' := S51) ok_X2_at (e_X2_at e52) (isb_el g48) (by decide) rfl (Nat.le_of_ble_eq_true rfl) rfl gw_1023 dX10_tellsOf_67 ?_
          obtain ⟨x54, S55, e56, h57⟩ := qc_el h53; clear h53
          refine xv_callS (pc := 70) (st := [.int (x33 - (x7 + 8))]) (as := [.int x50]) (v := (some (.int x54))) (S' := S55) ok_X10_headerOf (e_X10_headerOf e56) (by decide) rfl (Nat.le_of_ble_eq_true rfl) rfl gw_1027 dX10_tellsOf_70 ?_
          refine ev_bipush (pc := 73) (v := 8) (by decide) dX10_tellsOf_73 ?_
          refine ev_iadd (pc := 75)  dX10_tellsOf_75 ?_
          refine ev_ic_ge (pc := 76) (tgt := 81) (by decide) dX10_tellsOf_76 (fun c58 => ?_) (fun c58 => ?_)
          · replace h57 := qi_t h57 c58
            refine ev_aload_n (pc := 81) (i := 0) rfl rfl rfl dX10_tellsOf_81 ?_
            refine ev_iload_n (pc := 82) (i := 3) rfl rfl dX10_tellsOf_82 ?_
            refine ev_aload_n (pc := 83) (i := 1) rfl rfl rfl dX10_tellsOf_83 ?_
            obtain ⟨x60, S61, e62, h63⟩ := qc_el h57; clear h57
            refine xv_callS (pc := 84) (st := []) (as := [.ref p0, .int (x7 + 8), .ref p1]) (v := none) (S' := S61) ok_X10_readPacket (e_X10_readPacket e62) (by decide) rfl (Nat.le_of_ble_eq_true rfl) rfl gw_1080 dX10_tellsOf_84 ?_
            refine ev_iconst (pc := 87) (v := 1) (by decide) dX10_tellsOf_87 ?_
            exact ev_ireturn (pc := 88) rfl rfl (qRI_eq h63) dX10_tellsOf_88
          · replace h57 := qi_f h57 c58
            refine ev_iconst (pc := 79) (v := 0) (by decide) dX10_tellsOf_79 ?_
            exact ev_ireturn (pc := 80) rfl rfl (qRI_eq h57) dX10_tellsOf_80
    · replace h28 := qi_t h28 c29
      refine ev_iconst (pc := 30) (v := 0) (by decide) dX10_tellsOf_30 ?_
      exact ev_ireturn (pc := 31) rfl rfl (qRI_eq h28) dX10_tellsOf_31
theorem dX3_isOf_0 : decode cX3_isOf 0 = .ok (.aload_n 0, 1) := by decide +kernel
theorem dX3_isOf_1 : decode cX3_isOf 1 = .ok (.getfield 9, 3) := by decide +kernel
theorem dX3_isOf_4 : decode cX3_isOf 4 = .ok (.iconst 1, 1) := by decide +kernel
theorem dX3_isOf_5 : decode cX3_isOf 5 = .ok (.laload, 1) := by decide +kernel
theorem dX3_isOf_6 : decode cX3_isOf 6 = .ok (.iload_n 1, 1) := by decide +kernel
theorem dX3_isOf_7 : decode cX3_isOf 7 = .ok (.i2l, 1) := by decide +kernel
theorem dX3_isOf_8 : decode cX3_isOf 8 = .ok (.lcmp, 1) := by decide +kernel
theorem dX3_isOf_9 : decode cX3_isOf 9 = .ok (.ifCond .ne 7, 3) := by decide +kernel
theorem dX3_isOf_12 : decode cX3_isOf 12 = .ok (.iconst 1, 1) := by decide +kernel
theorem dX3_isOf_13 : decode cX3_isOf 13 = .ok (.goto 4, 3) := by decide +kernel
theorem dX3_isOf_16 : decode cX3_isOf 16 = .ok (.iconst 0, 1) := by decide +kernel
theorem dX3_isOf_17 : decode cX3_isOf 17 = .ok (.ireturn, 1) := by decide +kernel
theorem e_X3_isOf {X : gk_X} {F : Nat} {S : gk_S} {a : Nat} {p0 : Int32} {r : (Int32 × gk_S)} (h0 : f_X3_isOf F S a p0 = some r) : EvM X m_X3_isOf 1 0 0 [.ref a, .int p0] S (qRI r) := by
  unfold f_X3_isOf at h0
  refine ev_method (by decide +kernel) rfl rfl (Nat.le_of_ble_eq_true rfl) ?_
  show EvW X m_X3_isOf 1 0 0 0 [some (.ref a), some (.int p0)] [] S _
  refine ev_aload_n (pc := 0) (i := 0) rfl rfl rfl dX3_isOf_0 ?_
  obtain ⟨g1, h2⟩ := qk_el h0; clear h0
  obtain ⟨b3, e4, h5⟩ := qP_el h2; clear h2
  refine xv_getP (pc := 1) fn_200 (isb_el g1) e4 gw_267 dX3_isOf_1 ?_
  refine ev_iconst (pc := 4) (v := 1) (by decide) dX3_isOf_4 ?_
  obtain ⟨g6, h7⟩ := qk_el h5; clear h5
  obtain ⟨g8, h9⟩ := qk_el h7; clear h7
  obtain ⟨x10, e11, h12⟩ := qv_el h9; clear h9
  refine yv_lald (pc := 5) (isb_el g6) (inb_el g8) e11 dX3_isOf_5 ?_
  refine ev_iload_n (pc := 6) (i := 1) rfl rfl dX3_isOf_6 ?_
  refine ev_i2l (pc := 7)  dX3_isOf_7 ?_
  refine ev_lcmp (pc := 8)  dX3_isOf_8 ?_
  refine ev_if_ne (pc := 9) (tgt := 16) (by decide) dX3_isOf_9 (fun c13 => ?_) (fun c13 => ?_)
  · replace h12 := qi_f h12 (lc_eqN c13)
    refine ev_iconst (pc := 16) (v := 0) (by decide) dX3_isOf_16 ?_
    exact ev_ireturn (pc := 17) rfl rfl (qRI_eq h12) dX3_isOf_17
  · replace h12 := qi_t h12 (lc_eq c13)
    refine ev_iconst (pc := 12) (v := 1) (by decide) dX3_isOf_12 ?_
    refine ev_goto (pc := 13) (tgt := 17) (by decide) dX3_isOf_13 ?_
    exact ev_ireturn (pc := 17) rfl rfl (qRI_eq h12) dX3_isOf_17
