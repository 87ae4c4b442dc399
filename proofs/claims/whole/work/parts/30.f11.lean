theorem dX12_lasts_0 : decode cX12_lasts 0 = .ok (.iload_n 0, 1) := by decide +kernel
theorem dX12_lasts_1 : decode cX12_lasts 1 = .ok (.bipush 6, 2) := by decide +kernel
theorem dX12_lasts_3 : decode cX12_lasts 3 = .ok (.if_icmp .ne 68, 3) := by decide +kernel
theorem dX12_lasts_6 : decode cX12_lasts 6 = .ok (.iload_n 1, 1) := by decide +kernel
theorem dX12_lasts_7 : decode cX12_lasts 7 = .ok (.iconst 1, 1) := by decide +kernel
theorem dX12_lasts_8 : decode cX12_lasts 8 = .ok (.if_icmp .ne 8, 3) := by decide +kernel
theorem dX12_lasts_11 : decode cX12_lasts 11 = .ok (.bipush 120, 2) := by decide +kernel
theorem dX12_lasts_13 : decode cX12_lasts 13 = .ok (.goto 57, 3) := by decide +kernel
theorem dX12_lasts_16 : decode cX12_lasts 16 = .ok (.iload_n 1, 1) := by decide +kernel
theorem dX12_lasts_17 : decode cX12_lasts 17 = .ok (.iconst 2, 1) := by decide +kernel
theorem dX12_lasts_18 : decode cX12_lasts 18 = .ok (.if_icmp .ne 8, 3) := by decide +kernel
theorem dX12_lasts_21 : decode cX12_lasts 21 = .ok (.bipush 60, 2) := by decide +kernel
theorem dX12_lasts_23 : decode cX12_lasts 23 = .ok (.goto 47, 3) := by decide +kernel
theorem dX12_lasts_26 : decode cX12_lasts 26 = .ok (.iload_n 1, 1) := by decide +kernel
theorem dX12_lasts_27 : decode cX12_lasts 27 = .ok (.iconst 3, 1) := by decide +kernel
theorem dX12_lasts_28 : decode cX12_lasts 28 = .ok (.if_icmp .ne 9, 3) := by decide +kernel
theorem dX12_lasts_31 : decode cX12_lasts 31 = .ok (.sipush 3600, 3) := by decide +kernel
theorem dX12_lasts_34 : decode cX12_lasts 34 = .ok (.goto 36, 3) := by decide +kernel
theorem dX12_lasts_37 : decode cX12_lasts 37 = .ok (.iload_n 1, 1) := by decide +kernel
theorem dX12_lasts_38 : decode cX12_lasts 38 = .ok (.iconst 4, 1) := by decide +kernel
theorem dX12_lasts_39 : decode cX12_lasts 39 = .ok (.if_icmp .ne 8, 3) := by decide +kernel
theorem dX12_lasts_42 : decode cX12_lasts 42 = .ok (.bipush 120, 2) := by decide +kernel
theorem dX12_lasts_44 : decode cX12_lasts 44 = .ok (.goto 26, 3) := by decide +kernel
theorem dX12_lasts_47 : decode cX12_lasts 47 = .ok (.iload_n 1, 1) := by decide +kernel
theorem dX12_lasts_48 : decode cX12_lasts 48 = .ok (.iconst 5, 1) := by decide +kernel
theorem dX12_lasts_49 : decode cX12_lasts 49 = .ok (.if_icmp .ne 8, 3) := by decide +kernel
theorem dX12_lasts_52 : decode cX12_lasts 52 = .ok (.bipush 30, 2) := by decide +kernel
theorem dX12_lasts_54 : decode cX12_lasts 54 = .ok (.goto 16, 3) := by decide +kernel
theorem dX12_lasts_57 : decode cX12_lasts 57 = .ok (.iload_n 1, 1) := by decide +kernel
theorem dX12_lasts_58 : decode cX12_lasts 58 = .ok (.bipush 6, 2) := by decide +kernel
theorem dX12_lasts_60 : decode cX12_lasts 60 = .ok (.if_icmp .ne 8, 3) := by decide +kernel
theorem dX12_lasts_63 : decode cX12_lasts 63 = .ok (.bipush 120, 2) := by decide +kernel
theorem dX12_lasts_65 : decode cX12_lasts 65 = .ok (.goto 5, 3) := by decide +kernel
theorem dX12_lasts_68 : decode cX12_lasts 68 = .ok (.bipush 10, 2) := by decide +kernel
theorem dX12_lasts_70 : decode cX12_lasts 70 = .ok (.ireturn, 1) := by decide +kernel
theorem dX12_lasts_71 : decode cX12_lasts 71 = .ok (.iload_n 0, 1) := by decide +kernel
theorem dX12_lasts_72 : decode cX12_lasts 72 = .ok (.bipush 17, 2) := by decide +kernel
theorem dX12_lasts_74 : decode cX12_lasts 74 = .ok (.if_icmp .ne 18, 3) := by decide +kernel
theorem dX12_lasts_77 : decode cX12_lasts 77 = .ok (.iload_n 2, 1) := by decide +kernel
theorem dX12_lasts_78 : decode cX12_lasts 78 = .ok (.ifCond .eq 9, 3) := by decide +kernel
theorem dX12_lasts_81 : decode cX12_lasts 81 = .ok (.sipush 180, 3) := by decide +kernel
theorem dX12_lasts_84 : decode cX12_lasts 84 = .ok (.goto 21, 3) := by decide +kernel
theorem dX12_lasts_87 : decode cX12_lasts 87 = .ok (.bipush 30, 2) := by decide +kernel
theorem dX12_lasts_89 : decode cX12_lasts 89 = .ok (.goto 16, 3) := by decide +kernel
theorem dX12_lasts_92 : decode cX12_lasts 92 = .ok (.iload_n 0, 1) := by decide +kernel
theorem dX12_lasts_93 : decode cX12_lasts 93 = .ok (.iconst 1, 1) := by decide +kernel
theorem dX12_lasts_94 : decode cX12_lasts 94 = .ok (.if_icmp .ne 8, 3) := by decide +kernel
theorem dX12_lasts_97 : decode cX12_lasts 97 = .ok (.bipush 30, 2) := by decide +kernel
theorem dX12_lasts_99 : decode cX12_lasts 99 = .ok (.goto 6, 3) := by decide +kernel
theorem dX12_lasts_102 : decode cX12_lasts 102 = .ok (.sipush 600, 3) := by decide +kernel
theorem dX12_lasts_105 : decode cX12_lasts 105 = .ok (.ireturn, 1) := by decide +kernel
theorem e_X12_lasts {X : gk_X} {F : Nat} {S : gk_S} {p0 : Int32} {p1 : Int32} {p2 : Int32} {r : (Int32 × gk_S)} (h0 : f_X12_lasts F S p0 p1 p2 = some r) : EvM X m_X12_lasts 1 0 0 [.int p0, .int p1, .int p2] S (qRI r) := by
  unfold f_X12_lasts at h0
  refine ev_method (by decide +kernel) rfl rfl (Nat.le_of_ble_eq_true rfl) ?_
  show EvW X m_X12_lasts 1 0 0 0 [some (.int p0), some (.int p1), some (.int p2)] [] S _
  refine ev_iload_n (pc := 0) (i := 0) rfl rfl dX12_lasts_0 ?_
  refine ev_bipush (pc := 1) (v := 6) (by decide) dX12_lasts_1 ?_
  refine ev_ic_ne (pc := 3) (tgt := 71) (by decide) dX12_lasts_3 (fun c1 => ?_) (fun c1 => ?_)
  · replace h0 := qi_f h0 c1
    refine ev_iload_n (pc := 71) (i := 0) rfl rfl dX12_lasts_71 ?_
    refine ev_bipush (pc := 72) (v := 17) (by decide) dX12_lasts_72 ?_
    refine ev_ic_ne (pc := 74) (tgt := 92) (by decide) dX12_lasts_74 (fun c3 => ?_) (fun c3 => ?_)
    · replace h0 := qi_f h0 c3
      refine ev_iload_n (pc := 92) (i := 0) rfl rfl dX12_lasts_92 ?_
      refine ev_iconst (pc := 93) (v := 1) (by decide) dX12_lasts_93 ?_
      refine ev_ic_ne (pc := 94) (tgt := 102) (by decide) dX12_lasts_94 (fun c5 => ?_) (fun c5 => ?_)
      · replace h0 := qi_f h0 c5
        refine ev_sipush (pc := 102) (v := 600) (by decide) dX12_lasts_102 ?_
        exact ev_ireturn (pc := 105) rfl (nar_int _) (qRI_eq h0) dX12_lasts_105
      · replace h0 := qi_t h0 c5
        refine ev_bipush (pc := 97) (v := 30) (by decide) dX12_lasts_97 ?_
        refine ev_goto (pc := 99) (tgt := 105) (by decide) dX12_lasts_99 ?_
        exact ev_ireturn (pc := 105) rfl (nar_int _) (qRI_eq h0) dX12_lasts_105
    · replace h0 := qi_t h0 c3
      refine ev_iload_n (pc := 77) (i := 2) rfl rfl dX12_lasts_77 ?_
      refine ev_if_eq (pc := 78) (tgt := 87) (by decide) dX12_lasts_78 (fun c7 => ?_) (fun c7 => ?_)
      · replace h0 := qi_t h0 c7
        refine ev_bipush (pc := 87) (v := 30) (by decide) dX12_lasts_87 ?_
        refine ev_goto (pc := 89) (tgt := 105) (by decide) dX12_lasts_89 ?_
        exact ev_ireturn (pc := 105) rfl (nar_int _) (qRI_eq h0) dX12_lasts_105
      · replace h0 := qi_f h0 c7
        refine ev_sipush (pc := 81) (v := 180) (by decide) dX12_lasts_81 ?_
        refine ev_goto (pc := 84) (tgt := 105) (by decide) dX12_lasts_84 ?_
        exact ev_ireturn (pc := 105) rfl (nar_int _) (qRI_eq h0) dX12_lasts_105
  · replace h0 := qi_t h0 c1
    refine ev_iload_n (pc := 6) (i := 1) rfl rfl dX12_lasts_6 ?_
    refine ev_iconst (pc := 7) (v := 1) (by decide) dX12_lasts_7 ?_
    refine ev_ic_ne (pc := 8) (tgt := 16) (by decide) dX12_lasts_8 (fun c9 => ?_) (fun c9 => ?_)
    · replace h0 := qi_f h0 c9
      refine ev_iload_n (pc := 16) (i := 1) rfl rfl dX12_lasts_16 ?_
      refine ev_iconst (pc := 17) (v := 2) (by decide) dX12_lasts_17 ?_
      refine ev_ic_ne (pc := 18) (tgt := 26) (by decide) dX12_lasts_18 (fun c11 => ?_) (fun c11 => ?_)
      · replace h0 := qi_f h0 c11
        refine ev_iload_n (pc := 26) (i := 1) rfl rfl dX12_lasts_26 ?_
        refine ev_iconst (pc := 27) (v := 3) (by decide) dX12_lasts_27 ?_
        refine ev_ic_ne (pc := 28) (tgt := 37) (by decide) dX12_lasts_28 (fun c13 => ?_) (fun c13 => ?_)
        · replace h0 := qi_f h0 c13
          refine ev_iload_n (pc := 37) (i := 1) rfl rfl dX12_lasts_37 ?_
          refine ev_iconst (pc := 38) (v := 4) (by decide) dX12_lasts_38 ?_
          refine ev_ic_ne (pc := 39) (tgt := 47) (by decide) dX12_lasts_39 (fun c15 => ?_) (fun c15 => ?_)
          · replace h0 := qi_f h0 c15
            refine ev_iload_n (pc := 47) (i := 1) rfl rfl dX12_lasts_47 ?_
            refine ev_iconst (pc := 48) (v := 5) (by decide) dX12_lasts_48 ?_
            refine ev_ic_ne (pc := 49) (tgt := 57) (by decide) dX12_lasts_49 (fun c17 => ?_) (fun c17 => ?_)
            · replace h0 := qi_f h0 c17
              refine ev_iload_n (pc := 57) (i := 1) rfl rfl dX12_lasts_57 ?_
              refine ev_bipush (pc := 58) (v := 6) (by decide) dX12_lasts_58 ?_
              refine ev_ic_ne (pc := 60) (tgt := 68) (by decide) dX12_lasts_60 (fun c19 => ?_) (fun c19 => ?_)
              · replace h0 := qi_f h0 c19
                refine ev_bipush (pc := 68) (v := 10) (by decide) dX12_lasts_68 ?_
                exact ev_ireturn (pc := 70) rfl (nar_int _) (qRI_eq h0) dX12_lasts_70
              · replace h0 := qi_t h0 c19
                refine ev_bipush (pc := 63) (v := 120) (by decide) dX12_lasts_63 ?_
                refine ev_goto (pc := 65) (tgt := 70) (by decide) dX12_lasts_65 ?_
                exact ev_ireturn (pc := 70) rfl (nar_int _) (qRI_eq h0) dX12_lasts_70
            · replace h0 := qi_t h0 c17
              refine ev_bipush (pc := 52) (v := 30) (by decide) dX12_lasts_52 ?_
              refine ev_goto (pc := 54) (tgt := 70) (by decide) dX12_lasts_54 ?_
              exact ev_ireturn (pc := 70) rfl (nar_int _) (qRI_eq h0) dX12_lasts_70
          · replace h0 := qi_t h0 c15
            refine ev_bipush (pc := 42) (v := 120) (by decide) dX12_lasts_42 ?_
            refine ev_goto (pc := 44) (tgt := 70) (by decide) dX12_lasts_44 ?_
            exact ev_ireturn (pc := 70) rfl (nar_int _) (qRI_eq h0) dX12_lasts_70
        · replace h0 := qi_t h0 c13
          refine ev_sipush (pc := 31) (v := 3600) (by decide) dX12_lasts_31 ?_
          refine ev_goto (pc := 34) (tgt := 70) (by decide) dX12_lasts_34 ?_
          exact ev_ireturn (pc := 70) rfl (nar_int _) (qRI_eq h0) dX12_lasts_70
      · replace h0 := qi_t h0 c11
        refine ev_bipush (pc := 21) (v := 60) (by decide) dX12_lasts_21 ?_
        refine ev_goto (pc := 23) (tgt := 70) (by decide) dX12_lasts_23 ?_
        exact ev_ireturn (pc := 70) rfl (nar_int _) (qRI_eq h0) dX12_lasts_70
    · replace h0 := qi_t h0 c9
      refine ev_bipush (pc := 11) (v := 120) (by decide) dX12_lasts_11 ?_
      refine ev_goto (pc := 13) (tgt := 70) (by decide) dX12_lasts_13 ?_
      exact ev_ireturn (pc := 70) rfl (nar_int _) (qRI_eq h0) dX12_lasts_70
theorem dX12_steps_0 : decode cX12_steps 0 = .ok (.bipush 9, 2) := by decide +kernel
theorem dX12_steps_2 : decode cX12_steps 2 = .ok (.iload_n 1, 1) := by decide +kernel
theorem dX12_steps_3 : decode cX12_steps 3 = .ok (.imul, 1) := by decide +kernel
theorem dX12_steps_4 : decode cX12_steps 4 = .ok (.istore 5, 2) := by decide +kernel
theorem dX12_steps_6 : decode cX12_steps 6 = .ok (.iload_n 3, 1) := by decide +kernel
theorem dX12_steps_7 : decode cX12_steps 7 = .ok (.bipush 8, 2) := by decide +kernel
theorem dX12_steps_9 : decode cX12_steps 9 = .ok (.if_icmp .ne 38, 3) := by decide +kernel
theorem dX12_steps_12 : decode cX12_steps 12 = .ok (.aload_n 0, 1) := by decide +kernel
theorem dX12_steps_13 : decode cX12_steps 13 = .ok (.getfield 87, 3) := by decide +kernel
theorem dX12_steps_16 : decode cX12_steps 16 = .ok (.iload 5, 2) := by decide +kernel
theorem dX12_steps_18 : decode cX12_steps 18 = .ok (.iconst 5, 1) := by decide +kernel
theorem dX12_steps_19 : decode cX12_steps 19 = .ok (.iadd, 1) := by decide +kernel
theorem dX12_steps_20 : decode cX12_steps 20 = .ok (.iconst 1, 1) := by decide +kernel
theorem dX12_steps_21 : decode cX12_steps 21 = .ok (.iastore, 1) := by decide +kernel
theorem dX12_steps_22 : decode cX12_steps 22 = .ok (.aload_n 0, 1) := by decide +kernel
theorem dX12_steps_23 : decode cX12_steps 23 = .ok (.getfield 87, 3) := by decide +kernel
theorem dX12_steps_26 : decode cX12_steps 26 = .ok (.iload 5, 2) := by decide +kernel
theorem dX12_steps_28 : decode cX12_steps 28 = .ok (.bipush 6, 2) := by decide +kernel
theorem dX12_steps_30 : decode cX12_steps 30 = .ok (.iadd, 1) := by decide +kernel
theorem dX12_steps_31 : decode cX12_steps 31 = .ok (.iconst 0, 1) := by decide +kernel
theorem dX12_steps_32 : decode cX12_steps 32 = .ok (.iastore, 1) := by decide +kernel
theorem dX12_steps_33 : decode cX12_steps 33 = .ok (.aload_n 0, 1) := by decide +kernel
theorem dX12_steps_34 : decode cX12_steps 34 = .ok (.getfield 87, 3) := by decide +kernel
theorem dX12_steps_37 : decode cX12_steps 37 = .ok (.iload 5, 2) := by decide +kernel
theorem dX12_steps_39 : decode cX12_steps 39 = .ok (.bipush 7, 2) := by decide +kernel
theorem dX12_steps_41 : decode cX12_steps 41 = .ok (.iadd, 1) := by decide +kernel
theorem dX12_steps_42 : decode cX12_steps 42 = .ok (.iconst 0, 1) := by decide +kernel
theorem dX12_steps_43 : decode cX12_steps 43 = .ok (.iastore, 1) := by decide +kernel
theorem dX12_steps_44 : decode cX12_steps 44 = .ok (.goto 77, 3) := by decide +kernel
theorem dX12_steps_47 : decode cX12_steps 47 = .ok (.iload_n 2, 1) := by decide +kernel
theorem dX12_steps_48 : decode cX12_steps 48 = .ok (.iconst 2, 1) := by decide +kernel
theorem dX12_steps_49 : decode cX12_steps 49 = .ok (.if_icmp .ne 14, 3) := by decide +kernel
theorem dX12_steps_52 : decode cX12_steps 52 = .ok (.aload_n 0, 1) := by decide +kernel
theorem dX12_steps_53 : decode cX12_steps 53 = .ok (.getfield 87, 3) := by decide +kernel
theorem dX12_steps_56 : decode cX12_steps 56 = .ok (.iload 5, 2) := by decide +kernel
theorem dX12_steps_58 : decode cX12_steps 58 = .ok (.bipush 6, 2) := by decide +kernel
theorem dX12_steps_60 : decode cX12_steps 60 = .ok (.iadd, 1) := by decide +kernel
theorem dX12_steps_61 : decode cX12_steps 61 = .ok (.iconst 1, 1) := by decide +kernel
theorem dX12_steps_62 : decode cX12_steps 62 = .ok (.iastore, 1) := by decide +kernel
theorem dX12_steps_63 : decode cX12_steps 63 = .ok (.aload_n 0, 1) := by decide +kernel
theorem dX12_steps_64 : decode cX12_steps 64 = .ok (.getfield 87, 3) := by decide +kernel
theorem dX12_steps_67 : decode cX12_steps 67 = .ok (.iload 5, 2) := by decide +kernel
theorem dX12_steps_69 : decode cX12_steps 69 = .ok (.iaload, 1) := by decide +kernel
theorem dX12_steps_70 : decode cX12_steps 70 = .ok (.bipush 6, 2) := by decide +kernel
theorem dX12_steps_72 : decode cX12_steps 72 = .ok (.if_icmp .ne 49, 3) := by decide +kernel
theorem dX12_steps_75 : decode cX12_steps 75 = .ok (.iload 4, 2) := by decide +kernel
theorem dX12_steps_77 : decode cX12_steps 77 = .ok (.bipush 70, 2) := by decide +kernel
theorem dX12_steps_79 : decode cX12_steps 79 = .ok (.if_icmp .ne 32, 3) := by decide +kernel
theorem dX12_steps_82 : decode cX12_steps 82 = .ok (.aload_n 0, 1) := by decide +kernel
theorem dX12_steps_83 : decode cX12_steps 83 = .ok (.getfield 87, 3) := by decide +kernel
theorem dX12_steps_86 : decode cX12_steps 86 = .ok (.iload 5, 2) := by decide +kernel
theorem dX12_steps_88 : decode cX12_steps 88 = .ok (.bipush 7, 2) := by decide +kernel
theorem dX12_steps_90 : decode cX12_steps 90 = .ok (.iadd, 1) := by decide +kernel
theorem dX12_steps_91 : decode cX12_steps 91 = .ok (.iaload, 1) := by decide +kernel
theorem dX12_steps_92 : decode cX12_steps 92 = .ok (.ifCond .ne 19, 3) := by decide +kernel
theorem dX12_steps_95 : decode cX12_steps 95 = .ok (.iload_n 3, 1) := by decide +kernel
theorem dX12_steps_96 : decode cX12_steps 96 = .ok (.iconst 4, 1) := by decide +kernel
theorem dX12_steps_97 : decode cX12_steps 97 = .ok (.if_icmp .ne 14, 3) := by decide +kernel
theorem dX12_steps_100 : decode cX12_steps 100 = .ok (.aload_n 0, 1) := by decide +kernel
theorem dX12_steps_101 : decode cX12_steps 101 = .ok (.getfield 87, 3) := by decide +kernel
theorem dX12_steps_104 : decode cX12_steps 104 = .ok (.iload 5, 2) := by decide +kernel
theorem dX12_steps_106 : decode cX12_steps 106 = .ok (.bipush 7, 2) := by decide +kernel
theorem dX12_steps_108 : decode cX12_steps 108 = .ok (.iadd, 1) := by decide +kernel
theorem dX12_steps_109 : decode cX12_steps 109 = .ok (.iload_n 2, 1) := by decide +kernel
theorem dX12_steps_110 : decode cX12_steps 110 = .ok (.iastore, 1) := by decide +kernel
theorem dX12_steps_111 : decode cX12_steps 111 = .ok (.aload_n 0, 1) := by decide +kernel
theorem dX12_steps_112 : decode cX12_steps 112 = .ok (.getfield 87, 3) := by decide +kernel
theorem dX12_steps_115 : decode cX12_steps 115 = .ok (.iload 5, 2) := by decide +kernel
theorem dX12_steps_117 : decode cX12_steps 117 = .ok (.iconst 5, 1) := by decide +kernel
theorem dX12_steps_118 : decode cX12_steps 118 = .ok (.iadd, 1) := by decide +kernel
theorem dX12_steps_119 : decode cX12_steps 119 = .ok (.iload_n 3, 1) := by decide +kernel
theorem dX12_steps_120 : decode cX12_steps 120 = .ok (.iastore, 1) := by decide +kernel
theorem dX12_steps_121 : decode cX12_steps 121 = .ok (.aload_n 0, 1) := by decide +kernel
theorem dX12_steps_122 : decode cX12_steps 122 = .ok (.getfield 87, 3) := by decide +kernel
theorem dX12_steps_125 : decode cX12_steps 125 = .ok (.iload 5, 2) := by decide +kernel
theorem dX12_steps_127 : decode cX12_steps 127 = .ok (.bipush 8, 2) := by decide +kernel
theorem dX12_steps_129 : decode cX12_steps 129 = .ok (.iadd, 1) := by decide +kernel
theorem dX12_steps_130 : decode cX12_steps 130 = .ok (.aload_n 0, 1) := by decide +kernel
theorem dX12_steps_131 : decode cX12_steps 131 = .ok (.getfield 343, 3) := by decide +kernel
theorem dX12_steps_134 : decode cX12_steps 134 = .ok (.aload_n 0, 1) := by decide +kernel
theorem dX12_steps_135 : decode cX12_steps 135 = .ok (.getfield 87, 3) := by decide +kernel
theorem dX12_steps_138 : decode cX12_steps 138 = .ok (.iload 5, 2) := by decide +kernel
theorem dX12_steps_140 : decode cX12_steps 140 = .ok (.iaload, 1) := by decide +kernel
theorem dX12_steps_141 : decode cX12_steps 141 = .ok (.aload_n 0, 1) := by decide +kernel
theorem dX12_steps_142 : decode cX12_steps 142 = .ok (.getfield 87, 3) := by decide +kernel
theorem dX12_steps_145 : decode cX12_steps 145 = .ok (.iload 5, 2) := by decide +kernel
theorem dX12_steps_147 : decode cX12_steps 147 = .ok (.iconst 5, 1) := by decide +kernel
theorem dX12_steps_148 : decode cX12_steps 148 = .ok (.iadd, 1) := by decide +kernel
theorem dX12_steps_149 : decode cX12_steps 149 = .ok (.iaload, 1) := by decide +kernel
theorem dX12_steps_150 : decode cX12_steps 150 = .ok (.aload_n 0, 1) := by decide +kernel
theorem dX12_steps_151 : decode cX12_steps 151 = .ok (.getfield 87, 3) := by decide +kernel
theorem dX12_steps_154 : decode cX12_steps 154 = .ok (.iload 5, 2) := by decide +kernel
theorem dX12_steps_156 : decode cX12_steps 156 = .ok (.bipush 6, 2) := by decide +kernel
theorem dX12_steps_158 : decode cX12_steps 158 = .ok (.iadd, 1) := by decide +kernel
theorem dX12_steps_159 : decode cX12_steps 159 = .ok (.iaload, 1) := by decide +kernel
theorem dX12_steps_160 : decode cX12_steps 160 = .ok (.iconst 1, 1) := by decide +kernel
theorem dX12_steps_161 : decode cX12_steps 161 = .ok (.if_icmp .ne 7, 3) := by decide +kernel
theorem dX12_steps_164 : decode cX12_steps 164 = .ok (.iconst 1, 1) := by decide +kernel
theorem dX12_steps_165 : decode cX12_steps 165 = .ok (.goto 4, 3) := by decide +kernel
theorem dX12_steps_168 : decode cX12_steps 168 = .ok (.iconst 0, 1) := by decide +kernel
theorem dX12_steps_169 : decode cX12_steps 169 = .ok (.invokestatic 387, 3) := by decide +kernel
theorem dX12_steps_172 : decode cX12_steps 172 = .ok (.iadd, 1) := by decide +kernel
theorem dX12_steps_173 : decode cX12_steps 173 = .ok (.iastore, 1) := by decide +kernel
theorem dX12_steps_174 : decode cX12_steps 174 = .ok (.return_, 1) := by decide +kernel
theorem e_X12_steps_169 {X : gk_X} {F : Nat} {s0 : Int32} {s1 : Int32} {s2 : Int32} {s3 : Int32} {s4 : Int32} {s5 : Nat} {S : gk_S} {r : (Unit × gk_S)} (h0 : f_X12_steps_169 F s0 s1 s2 s3 s4 s5 S = some r) : EvW X m_X12_steps 2 0 0 169 [none, none, none, none, none, none] [.int s0, .int s1, .int s2, .int s3, .int s4, .ref s5] S (qRU r) := by
  unfold f_X12_steps_169 at h0
  obtain ⟨x59, S60, e61, h62⟩ := qc_el h0; clear h0
  refine xv_callS (pc := 169) (st := [.int s3, .int s4, .ref s5]) (as := [.int s2, .int s1, .int s0]) (v := (some (.int x59))) (S' := S60) ok_X12_lasts (e_X12_lasts e61) (by decide) rfl (Nat.le_of_ble_eq_true rfl) rfl gw_1571 dX12_steps_169 ?_
  refine ev_iadd (pc := 172)  dX12_steps_172 ?_
  obtain ⟨g63, h64⟩ := qk_el h62; clear h62
  obtain ⟨g65, h66⟩ := qk_el h64; clear h64
  obtain ⟨S67, e68, h69⟩ := qv_el h66; clear h66
  refine yv_iast (pc := 173) (isb_el g63) (inb_el g65) e68 dX12_steps_173 ?_
  exact ev_return (pc := 174) rfl (qRU_eq h69) dX12_steps_174
theorem e_X12_steps_121 {X : gk_X} {F : Nat} {l0 : Nat} {l5 : Int32} {S : gk_S} {r : (Unit × gk_S)} (h0 : f_X12_steps_121 F l0 l5 S = some r) : EvW X m_X12_steps 2 0 0 121 [some (.ref l0), none, none, none, none, some (.int l5)] [] S (qRU r) := by
  unfold f_X12_steps_121 at h0
  refine ev_aload_n (pc := 121) (i := 0) rfl rfl rfl dX12_steps_121 ?_
  obtain ⟨g19, h20⟩ := qk_el h0; clear h0
  obtain ⟨b21, e22, h23⟩ := qP_el h20; clear h20
  refine xv_getP (pc := 122) fn_931 (isb_el g19) e22 gw_1171 dX12_steps_122 ?_
  refine ev_iload (pc := 125) (i := 5) rfl dX12_steps_125 ?_
  refine ev_bipush (pc := 127) (v := 8) (by decide) dX12_steps_127 ?_
  refine ev_iadd (pc := 129)  dX12_steps_129 ?_
  refine ev_aload_n (pc := 130) (i := 0) rfl rfl rfl dX12_steps_130 ?_
  obtain ⟨x24, e25, h26⟩ := qv_el h23; clear h23
  refine xv_getIv (pc := 131) fn_934 (isb_el g19) e25 gw_1174 dX12_steps_131 ?_
  refine ev_aload_n (pc := 134) (i := 0) rfl rfl rfl dX12_steps_134 ?_
  obtain ⟨b27, e28, h29⟩ := qP_el h26; clear h26
  refine xv_getP (pc := 135) fn_931 (isb_el g19) e28 gw_1171 dX12_steps_135 ?_
  refine ev_iload (pc := 138) (i := 5) rfl dX12_steps_138 ?_
  obtain ⟨g30, h31⟩ := qk_el h29; clear h29
  obtain ⟨g32, h33⟩ := qk_el h31; clear h31
  obtain ⟨x34, e35, h36⟩ := qv_el h33; clear h33
  refine yv_iald (pc := 140) (isb_el g30) (inb_el g32) e35 dX12_steps_140 ?_
  refine ev_aload_n (pc := 141) (i := 0) rfl rfl rfl dX12_steps_141 ?_
  obtain ⟨b37, e38, h39⟩ := qP_el h36; clear h36
  refine xv_getP (pc := 142) fn_931 (isb_el g19) e38 gw_1171 dX12_steps_142 ?_
  refine ev_iload (pc := 145) (i := 5) rfl dX12_steps_145 ?_
  refine ev_iconst (pc := 147) (v := 5) (by decide) dX12_steps_147 ?_
  refine ev_iadd (pc := 148)  dX12_steps_148 ?_
  obtain ⟨g40, h41⟩ := qk_el h39; clear h39
  obtain ⟨g42, h43⟩ := qk_el h41; clear h41
  obtain ⟨x44, e45, h46⟩ := qv_el h43; clear h43
  refine yv_iald (pc := 149) (isb_el g40) (inb_el g42) e45 dX12_steps_149 ?_
  refine ev_aload_n (pc := 150) (i := 0) rfl rfl rfl dX12_steps_150 ?_
  obtain ⟨b47, e48, h49⟩ := qP_el h46; clear h46
  refine xv_getP (pc := 151) fn_931 (isb_el g19) e48 gw_1171 dX12_steps_151 ?_
  refine ev_iload (pc := 154) (i := 5) rfl dX12_steps_154 ?_
  refine ev_bipush (pc := 156) (v := 6) (by decide) dX12_steps_156 ?_
  refine ev_iadd (pc := 158)  dX12_steps_158 ?_
  obtain ⟨g50, h51⟩ := qk_el h49; clear h49
  obtain ⟨g52, h53⟩ := qk_el h51; clear h51
  obtain ⟨x54, e55, h56⟩ := qv_el h53; clear h53
  refine yv_iald (pc := 159) (isb_el g50) (inb_el g52) e55 dX12_steps_159 ?_
  refine ev_iconst (pc := 160) (v := 1) (by decide) dX12_steps_160 ?_
  refine ev_ic_ne (pc := 161) (tgt := 168) (by decide) dX12_steps_161 (fun c57 => ?_) (fun c57 => ?_)
  · replace h56 := qi_f h56 c57
    refine ev_iconst (pc := 168) (v := 0) (by decide) dX12_steps_168 ?_
    exact ev_weak (qL_n (qL_n (qL_n (qL_n (qL_n (qL_n qL_nil)))))) (e_X12_steps_169 h56)
  · replace h56 := qi_t h56 c57
    refine ev_iconst (pc := 164) (v := 1) (by decide) dX12_steps_164 ?_
    refine ev_goto (pc := 165) (tgt := 169) (by decide) dX12_steps_165 ?_
    exact ev_weak (qL_n (qL_n (qL_n (qL_n (qL_n (qL_n qL_nil)))))) (e_X12_steps_169 h56)
theorem e_X12_steps_111 {X : gk_X} {F : Nat} {l0 : Nat} {l3 : Int32} {l5 : Int32} {S : gk_S} {r : (Unit × gk_S)} (h0 : f_X12_steps_111 F l0 l3 l5 S = some r) : EvW X m_X12_steps 2 0 0 111 [some (.ref l0), none, none, some (.int l3), none, some (.int l5)] [] S (qRU r) := by
  unfold f_X12_steps_111 at h0
  refine ev_aload_n (pc := 111) (i := 0) rfl rfl rfl dX12_steps_111 ?_
  obtain ⟨g72, h73⟩ := qk_el h0; clear h0
  obtain ⟨b74, e75, h76⟩ := qP_el h73; clear h73
  refine xv_getP (pc := 112) fn_931 (isb_el g72) e75 gw_1171 dX12_steps_112 ?_
  refine ev_iload (pc := 115) (i := 5) rfl dX12_steps_115 ?_
  refine ev_iconst (pc := 117) (v := 5) (by decide) dX12_steps_117 ?_
  refine ev_iadd (pc := 118)  dX12_steps_118 ?_
  refine ev_iload_n (pc := 119) (i := 3) rfl rfl dX12_steps_119 ?_
  obtain ⟨g77, h78⟩ := qk_el h76; clear h76
  obtain ⟨g79, h80⟩ := qk_el h78; clear h78
  obtain ⟨S81, e82, h83⟩ := qv_el h80; clear h80
  refine yv_iast (pc := 120) (isb_el g77) (inb_el g79) e82 dX12_steps_120 ?_
  exact ev_weak (qL_s (qL_n (qL_n (qL_n (qL_n (qL_s qL_nil)))))) (e_X12_steps_121 h83)
theorem e_X12_steps_63 {X : gk_X} {F : Nat} {l0 : Nat} {l2 : Int32} {l3 : Int32} {l4 : Int32} {l5 : Int32} {S : gk_S} {r : (Unit × gk_S)} (h0 : f_X12_steps_63 F l0 l2 l3 l4 l5 S = some r) : EvW X m_X12_steps 2 0 0 63 [some (.ref l0), none, some (.int l2), some (.int l3), some (.int l4), some (.int l5)] [] S (qRU r) := by
  unfold f_X12_steps_63 at h0
  refine ev_aload_n (pc := 63) (i := 0) rfl rfl rfl dX12_steps_63 ?_
  obtain ⟨g5, h6⟩ := qk_el h0; clear h0
  obtain ⟨b7, e8, h9⟩ := qP_el h6; clear h6
  refine xv_getP (pc := 64) fn_931 (isb_el g5) e8 gw_1171 dX12_steps_64 ?_
  refine ev_iload (pc := 67) (i := 5) rfl dX12_steps_67 ?_
  obtain ⟨g10, h11⟩ := qk_el h9; clear h9
  obtain ⟨g12, h13⟩ := qk_el h11; clear h11
  obtain ⟨x14, e15, h16⟩ := qv_el h13; clear h13
  refine yv_iald (pc := 69) (isb_el g10) (inb_el g12) e15 dX12_steps_69 ?_
  refine ev_bipush (pc := 70) (v := 6) (by decide) dX12_steps_70 ?_
  refine ev_ic_ne (pc := 72) (tgt := 121) (by decide) dX12_steps_72 (fun c17 => ?_) (fun c17 => ?_)
  · replace h16 := qi_f h16 c17
    exact ev_weak (qL_s (qL_n (qL_n (qL_n (qL_n (qL_s qL_nil)))))) (e_X12_steps_121 h16)
  · replace h16 := qi_t h16 c17
    refine ev_iload (pc := 75) (i := 4) rfl dX12_steps_75 ?_
    refine ev_bipush (pc := 77) (v := 70) (by decide) dX12_steps_77 ?_
    refine ev_ic_ne (pc := 79) (tgt := 111) (by decide) dX12_steps_79 (fun c70 => ?_) (fun c70 => ?_)
    · replace h16 := qi_f h16 c70
      exact ev_weak (qL_s (qL_n (qL_n (qL_s (qL_n (qL_s qL_nil)))))) (e_X12_steps_111 h16)
    · replace h16 := qi_t h16 c70
      refine ev_aload_n (pc := 82) (i := 0) rfl rfl rfl dX12_steps_82 ?_
      obtain ⟨b84, e85, h86⟩ := qP_el h16; clear h16
      refine xv_getP (pc := 83) fn_931 (isb_el g5) e85 gw_1171 dX12_steps_83 ?_
      refine ev_iload (pc := 86) (i := 5) rfl dX12_steps_86 ?_
      refine ev_bipush (pc := 88) (v := 7) (by decide) dX12_steps_88 ?_
      refine ev_iadd (pc := 90)  dX12_steps_90 ?_
      obtain ⟨g87, h88⟩ := qk_el h86; clear h86
      obtain ⟨g89, h90⟩ := qk_el h88; clear h88
      obtain ⟨x91, e92, h93⟩ := qv_el h90; clear h90
      refine yv_iald (pc := 91) (isb_el g87) (inb_el g89) e92 dX12_steps_91 ?_
      refine ev_if_ne (pc := 92) (tgt := 111) (by decide) dX12_steps_92 (fun c94 => ?_) (fun c94 => ?_)
      · replace h93 := qi_f h93 c94
        exact ev_weak (qL_s (qL_n (qL_n (qL_s (qL_n (qL_s qL_nil)))))) (e_X12_steps_111 h93)
      · replace h93 := qi_t h93 c94
        refine ev_iload_n (pc := 95) (i := 3) rfl rfl dX12_steps_95 ?_
        refine ev_iconst (pc := 96) (v := 4) (by decide) dX12_steps_96 ?_
        refine ev_ic_ne (pc := 97) (tgt := 111) (by decide) dX12_steps_97 (fun c96 => ?_) (fun c96 => ?_)
        · replace h93 := qi_f h93 c96
          exact ev_weak (qL_s (qL_n (qL_n (qL_s (qL_n (qL_s qL_nil)))))) (e_X12_steps_111 h93)
        · replace h93 := qi_t h93 c96
          refine ev_aload_n (pc := 100) (i := 0) rfl rfl rfl dX12_steps_100 ?_
          obtain ⟨b98, e99, h100⟩ := qP_el h93; clear h93
          refine xv_getP (pc := 101) fn_931 (isb_el g5) e99 gw_1171 dX12_steps_101 ?_
          refine ev_iload (pc := 104) (i := 5) rfl dX12_steps_104 ?_
          refine ev_bipush (pc := 106) (v := 7) (by decide) dX12_steps_106 ?_
          refine ev_iadd (pc := 108)  dX12_steps_108 ?_
          refine ev_iload_n (pc := 109) (i := 2) rfl rfl dX12_steps_109 ?_
          obtain ⟨g101, h102⟩ := qk_el h100; clear h100
          obtain ⟨g103, h104⟩ := qk_el h102; clear h102
          obtain ⟨S105, e106, h107⟩ := qv_el h104; clear h104
          refine yv_iast (pc := 110) (isb_el g101) (inb_el g103) e106 dX12_steps_110 ?_
          exact ev_weak (qL_s (qL_n (qL_n (qL_s (qL_n (qL_s qL_nil)))))) (e_X12_steps_111 h107)
theorem e_X12_steps {X : gk_X} {F : Nat} {S : gk_S} {a : Nat} {p0 : Int32} {p1 : Int32} {p2 : Int32} {p3 : Int32} {r : (Unit × gk_S)} (h0 : f_X12_steps F S a p0 p1 p2 p3 = some r) : EvM X m_X12_steps 2 0 0 [.ref a, .int p0, .int p1, .int p2, .int p3] S (qRU r) := by
  unfold f_X12_steps at h0
  refine ev_method (by decide +kernel) rfl rfl (Nat.le_of_ble_eq_true rfl) ?_
  show EvW X m_X12_steps 2 0 0 0 [some (.ref a), some (.int p0), some (.int p1), some (.int p2), some (.int p3), none] [] S _
  refine ev_bipush (pc := 0) (v := 9) (by decide) dX12_steps_0 ?_
  refine ev_iload_n (pc := 2) (i := 1) rfl rfl dX12_steps_2 ?_
  refine ev_imul (pc := 3)  dX12_steps_3 ?_
  refine ev_istore (pc := 4) (L' := [some (.ref a), some (.int p0), some (.int p1), some (.int p2), some (.int p3), some (.int (9 * p0))]) (i := 5) (by decide) rfl rfl dX12_steps_4 ?_
  refine ev_iload_n (pc := 6) (i := 3) rfl rfl dX12_steps_6 ?_
  refine ev_bipush (pc := 7) (v := 8) (by decide) dX12_steps_7 ?_
  refine ev_ic_ne (pc := 9) (tgt := 47) (by decide) dX12_steps_9 (fun c1 => ?_) (fun c1 => ?_)
  · replace h0 := qi_f h0 c1
    refine ev_iload_n (pc := 47) (i := 2) rfl rfl dX12_steps_47 ?_
    refine ev_iconst (pc := 48) (v := 2) (by decide) dX12_steps_48 ?_
    refine ev_ic_ne (pc := 49) (tgt := 63) (by decide) dX12_steps_49 (fun c3 => ?_) (fun c3 => ?_)
    · replace h0 := qi_f h0 c3
      exact ev_weak (qL_s (qL_n (qL_s (qL_s (qL_s (qL_s qL_nil)))))) (e_X12_steps_63 h0)
    · replace h0 := qi_t h0 c3
      refine ev_aload_n (pc := 52) (i := 0) rfl rfl rfl dX12_steps_52 ?_
      obtain ⟨g108, h109⟩ := qk_el h0; clear h0
      obtain ⟨b110, e111, h112⟩ := qP_el h109; clear h109
      refine xv_getP (pc := 53) fn_931 (isb_el g108) e111 gw_1171 dX12_steps_53 ?_
      refine ev_iload (pc := 56) (i := 5) rfl dX12_steps_56 ?_
      refine ev_bipush (pc := 58) (v := 6) (by decide) dX12_steps_58 ?_
      refine ev_iadd (pc := 60)  dX12_steps_60 ?_
      refine ev_iconst (pc := 61) (v := 1) (by decide) dX12_steps_61 ?_
      obtain ⟨g113, h114⟩ := qk_el h112; clear h112
      obtain ⟨g115, h116⟩ := qk_el h114; clear h114
      obtain ⟨S117, e118, h119⟩ := qv_el h116; clear h116
      refine yv_iast (pc := 62) (isb_el g113) (inb_el g115) e118 dX12_steps_62 ?_
      exact ev_weak (qL_s (qL_n (qL_s (qL_s (qL_s (qL_s qL_nil)))))) (e_X12_steps_63 h119)
  · replace h0 := qi_t h0 c1
    refine ev_aload_n (pc := 12) (i := 0) rfl rfl rfl dX12_steps_12 ?_
    obtain ⟨g120, h121⟩ := qk_el h0; clear h0
    obtain ⟨b122, e123, h124⟩ := qP_el h121; clear h121
    refine xv_getP (pc := 13) fn_931 (isb_el g120) e123 gw_1171 dX12_steps_13 ?_
    refine ev_iload (pc := 16) (i := 5) rfl dX12_steps_16 ?_
    refine ev_iconst (pc := 18) (v := 5) (by decide) dX12_steps_18 ?_
    refine ev_iadd (pc := 19)  dX12_steps_19 ?_
    refine ev_iconst (pc := 20) (v := 1) (by decide) dX12_steps_20 ?_
    obtain ⟨g125, h126⟩ := qk_el h124; clear h124
    obtain ⟨g127, h128⟩ := qk_el h126; clear h126
    obtain ⟨S129, e130, h131⟩ := qv_el h128; clear h128
    refine yv_iast (pc := 21) (isb_el g125) (inb_el g127) e130 dX12_steps_21 ?_
    refine ev_aload_n (pc := 22) (i := 0) rfl rfl rfl dX12_steps_22 ?_
    obtain ⟨b132, e133, h134⟩ := qP_el h131; clear h131
    refine xv_getP (pc := 23) fn_931 (is_wI (isb_el g120) e130) e133 gw_1171 dX12_steps_23 ?_
    refine ev_iload (pc := 26) (i := 5) rfl dX12_steps_26 ?_
    refine ev_bipush (pc := 28) (v := 6) (by decide) dX12_steps_28 ?_
    refine ev_iadd (pc := 30)  dX12_steps_30 ?_
    refine ev_iconst (pc := 31) (v := 0) (by decide) dX12_steps_31 ?_
    obtain ⟨g135, h136⟩ := qk_el h134; clear h134
    obtain ⟨g137, h138⟩ := qk_el h136; clear h136
    obtain ⟨S139, e140, h141⟩ := qv_el h138; clear h138
    refine yv_iast (pc := 32) (isb_el g135) (inb_el g137) e140 dX12_steps_32 ?_
    refine ev_aload_n (pc := 33) (i := 0) rfl rfl rfl dX12_steps_33 ?_
    obtain ⟨b142, e143, h144⟩ := qP_el h141; clear h141
    refine xv_getP (pc := 34) fn_931 (is_wI (is_wI (isb_el g120) e130) e140) e143 gw_1171 dX12_steps_34 ?_
    refine ev_iload (pc := 37) (i := 5) rfl dX12_steps_37 ?_
    refine ev_bipush (pc := 39) (v := 7) (by decide) dX12_steps_39 ?_
    refine ev_iadd (pc := 41)  dX12_steps_41 ?_
    refine ev_iconst (pc := 42) (v := 0) (by decide) dX12_steps_42 ?_
    obtain ⟨g145, h146⟩ := qk_el h144; clear h144
    obtain ⟨g147, h148⟩ := qk_el h146; clear h146
    obtain ⟨S149, e150, h151⟩ := qv_el h148; clear h148
    refine yv_iast (pc := 43) (isb_el g145) (inb_el g147) e150 dX12_steps_43 ?_
    refine ev_goto (pc := 44) (tgt := 121) (by decide) dX12_steps_44 ?_
    exact ev_weak (qL_s (qL_n (qL_n (qL_n (qL_n (qL_s qL_nil)))))) (e_X12_steps_121 h151)
theorem dX12_begins_0 : decode cX12_begins 0 = .ok (.aload_n 0, 1) := by decide +kernel
theorem dX12_begins_1 : decode cX12_begins 1 = .ok (.getfield 340, 3) := by decide +kernel
theorem dX12_begins_4 : decode cX12_begins 4 = .ok (.aload_n 0, 1) := by decide +kernel
theorem dX12_begins_5 : decode cX12_begins 5 = .ok (.getfield 90, 3) := by decide +kernel
theorem dX12_begins_8 : decode cX12_begins 8 = .ok (.if_icmp .ne 101, 3) := by decide +kernel
theorem dX12_begins_11 : decode cX12_begins 11 = .ok (.iconst (-1), 1) := by decide +kernel
theorem dX12_begins_12 : decode cX12_begins 12 = .ok (.istore 6, 2) := by decide +kernel
theorem dX12_begins_14 : decode cX12_begins 14 = .ok (.iconst 0, 1) := by decide +kernel
theorem dX12_begins_15 : decode cX12_begins 15 = .ok (.istore 7, 2) := by decide +kernel
theorem dX12_begins_17 : decode cX12_begins 17 = .ok (.iload 7, 2) := by decide +kernel
theorem dX12_begins_19 : decode cX12_begins 19 = .ok (.aload_n 0, 1) := by decide +kernel
theorem dX12_begins_20 : decode cX12_begins 20 = .ok (.getfield 340, 3) := by decide +kernel
theorem dX12_begins_23 : decode cX12_begins 23 = .ok (.if_icmp .ge 63, 3) := by decide +kernel
theorem dX12_begins_26 : decode cX12_begins 26 = .ok (.aload_n 0, 1) := by decide +kernel
theorem dX12_begins_27 : decode cX12_begins 27 = .ok (.getfield 87, 3) := by decide +kernel
theorem dX12_begins_30 : decode cX12_begins 30 = .ok (.bipush 9, 2) := by decide +kernel
theorem dX12_begins_32 : decode cX12_begins 32 = .ok (.iload 7, 2) := by decide +kernel
theorem dX12_begins_34 : decode cX12_begins 34 = .ok (.imul, 1) := by decide +kernel
theorem dX12_begins_35 : decode cX12_begins 35 = .ok (.bipush 6, 2) := by decide +kernel
theorem dX12_begins_37 : decode cX12_begins 37 = .ok (.iadd, 1) := by decide +kernel
theorem dX12_begins_38 : decode cX12_begins 38 = .ok (.iaload, 1) := by decide +kernel
theorem dX12_begins_39 : decode cX12_begins 39 = .ok (.ifCond .ne 41, 3) := by decide +kernel
theorem dX12_begins_42 : decode cX12_begins 42 = .ok (.iload 6, 2) := by decide +kernel
theorem dX12_begins_44 : decode cX12_begins 44 = .ok (.ifCond .lt 32, 3) := by decide +kernel
theorem dX12_begins_47 : decode cX12_begins 47 = .ok (.aload_n 0, 1) := by decide +kernel
theorem dX12_begins_48 : decode cX12_begins 48 = .ok (.getfield 87, 3) := by decide +kernel
theorem dX12_begins_51 : decode cX12_begins 51 = .ok (.bipush 9, 2) := by decide +kernel
theorem dX12_begins_53 : decode cX12_begins 53 = .ok (.iload 7, 2) := by decide +kernel
theorem dX12_begins_55 : decode cX12_begins 55 = .ok (.imul, 1) := by decide +kernel
theorem dX12_begins_56 : decode cX12_begins 56 = .ok (.bipush 8, 2) := by decide +kernel
theorem dX12_begins_58 : decode cX12_begins 58 = .ok (.iadd, 1) := by decide +kernel
theorem dX12_begins_59 : decode cX12_begins 59 = .ok (.iaload, 1) := by decide +kernel
theorem dX12_begins_60 : decode cX12_begins 60 = .ok (.aload_n 0, 1) := by decide +kernel
theorem dX12_begins_61 : decode cX12_begins 61 = .ok (.getfield 87, 3) := by decide +kernel
theorem dX12_begins_64 : decode cX12_begins 64 = .ok (.bipush 9, 2) := by decide +kernel
theorem dX12_begins_66 : decode cX12_begins 66 = .ok (.iload 6, 2) := by decide +kernel
theorem dX12_begins_68 : decode cX12_begins 68 = .ok (.imul, 1) := by decide +kernel
theorem dX12_begins_69 : decode cX12_begins 69 = .ok (.bipush 8, 2) := by decide +kernel
theorem dX12_begins_71 : decode cX12_begins 71 = .ok (.iadd, 1) := by decide +kernel
theorem dX12_begins_72 : decode cX12_begins 72 = .ok (.iaload, 1) := by decide +kernel
theorem dX12_begins_73 : decode cX12_begins 73 = .ok (.if_icmp .ge 7, 3) := by decide +kernel
theorem dX12_begins_76 : decode cX12_begins 76 = .ok (.iload 7, 2) := by decide +kernel
theorem dX12_begins_78 : decode cX12_begins 78 = .ok (.istore 6, 2) := by decide +kernel
theorem dX12_begins_80 : decode cX12_begins 80 = .ok (.iinc 7 1, 3) := by decide +kernel
theorem dX12_begins_83 : decode cX12_begins 83 = .ok (.goto (-66), 3) := by decide +kernel
theorem dX12_begins_86 : decode cX12_begins 86 = .ok (.iload 6, 2) := by decide +kernel
theorem dX12_begins_88 : decode cX12_begins 88 = .ok (.ifCond .ge 5, 3) := by decide +kernel
theorem dX12_begins_91 : decode cX12_begins 91 = .ok (.iconst 0, 1) := by decide +kernel
theorem dX12_begins_92 : decode cX12_begins 92 = .ok (.ireturn, 1) := by decide +kernel
theorem dX12_begins_93 : decode cX12_begins 93 = .ok (.aload_n 0, 1) := by decide +kernel
theorem dX12_begins_94 : decode cX12_begins 94 = .ok (.iload 6, 2) := by decide +kernel
theorem dX12_begins_96 : decode cX12_begins 96 = .ok (.invokevirtual 347, 3) := by decide +kernel
theorem dX12_begins_99 : decode cX12_begins 99 = .ok (.aload_n 0, 1) := by decide +kernel
theorem dX12_begins_100 : decode cX12_begins 100 = .ok (.dup, 1) := by decide +kernel
theorem dX12_begins_101 : decode cX12_begins 101 = .ok (.getfield 391, 3) := by decide +kernel
theorem dX12_begins_104 : decode cX12_begins 104 = .ok (.iconst 1, 1) := by decide +kernel
theorem dX12_begins_105 : decode cX12_begins 105 = .ok (.iadd, 1) := by decide +kernel
theorem dX12_begins_106 : decode cX12_begins 106 = .ok (.putfield 391, 3) := by decide +kernel
theorem dX12_begins_109 : decode cX12_begins 109 = .ok (.bipush 9, 2) := by decide +kernel
theorem dX12_begins_111 : decode cX12_begins 111 = .ok (.aload_n 0, 1) := by decide +kernel
theorem dX12_begins_112 : decode cX12_begins 112 = .ok (.getfield 340, 3) := by decide +kernel
theorem dX12_begins_115 : decode cX12_begins 115 = .ok (.imul, 1) := by decide +kernel
theorem dX12_begins_116 : decode cX12_begins 116 = .ok (.istore 6, 2) := by decide +kernel
theorem dX12_begins_118 : decode cX12_begins 118 = .ok (.aload_n 0, 1) := by decide +kernel
theorem dX12_begins_119 : decode cX12_begins 119 = .ok (.dup, 1) := by decide +kernel
theorem dX12_begins_120 : decode cX12_begins 120 = .ok (.getfield 340, 3) := by decide +kernel
theorem dX12_begins_123 : decode cX12_begins 123 = .ok (.iconst 1, 1) := by decide +kernel
theorem dX12_begins_124 : decode cX12_begins 124 = .ok (.iadd, 1) := by decide +kernel
theorem dX12_begins_125 : decode cX12_begins 125 = .ok (.putfield 340, 3) := by decide +kernel
theorem dX12_begins_128 : decode cX12_begins 128 = .ok (.aload_n 0, 1) := by decide +kernel
theorem dX12_begins_129 : decode cX12_begins 129 = .ok (.getfield 87, 3) := by decide +kernel
theorem dX12_begins_132 : decode cX12_begins 132 = .ok (.iload 6, 2) := by decide +kernel
theorem dX12_begins_134 : decode cX12_begins 134 = .ok (.iload_n 1, 1) := by decide +kernel
theorem dX12_begins_135 : decode cX12_begins 135 = .ok (.iastore, 1) := by decide +kernel
theorem dX12_begins_136 : decode cX12_begins 136 = .ok (.aload_n 0, 1) := by decide +kernel
theorem dX12_begins_137 : decode cX12_begins 137 = .ok (.getfield 87, 3) := by decide +kernel
theorem dX12_begins_140 : decode cX12_begins 140 = .ok (.iload 6, 2) := by decide +kernel
theorem dX12_begins_142 : decode cX12_begins 142 = .ok (.iconst 1, 1) := by decide +kernel
theorem dX12_begins_143 : decode cX12_begins 143 = .ok (.iadd, 1) := by decide +kernel
theorem dX12_begins_144 : decode cX12_begins 144 = .ok (.iload_n 2, 1) := by decide +kernel
theorem dX12_begins_145 : decode cX12_begins 145 = .ok (.iastore, 1) := by decide +kernel
theorem dX12_begins_146 : decode cX12_begins 146 = .ok (.aload_n 0, 1) := by decide +kernel
theorem dX12_begins_147 : decode cX12_begins 147 = .ok (.getfield 87, 3) := by decide +kernel
theorem dX12_begins_150 : decode cX12_begins 150 = .ok (.iload 6, 2) := by decide +kernel
theorem dX12_begins_152 : decode cX12_begins 152 = .ok (.iconst 2, 1) := by decide +kernel
theorem dX12_begins_153 : decode cX12_begins 153 = .ok (.iadd, 1) := by decide +kernel
theorem dX12_begins_154 : decode cX12_begins 154 = .ok (.iload_n 3, 1) := by decide +kernel
theorem dX12_begins_155 : decode cX12_begins 155 = .ok (.iastore, 1) := by decide +kernel
theorem dX12_begins_156 : decode cX12_begins 156 = .ok (.aload_n 0, 1) := by decide +kernel
theorem dX12_begins_157 : decode cX12_begins 157 = .ok (.getfield 87, 3) := by decide +kernel
theorem dX12_begins_160 : decode cX12_begins 160 = .ok (.iload 6, 2) := by decide +kernel
theorem dX12_begins_162 : decode cX12_begins 162 = .ok (.iconst 3, 1) := by decide +kernel
theorem dX12_begins_163 : decode cX12_begins 163 = .ok (.iadd, 1) := by decide +kernel
theorem dX12_begins_164 : decode cX12_begins 164 = .ok (.iload 4, 2) := by decide +kernel
theorem dX12_begins_166 : decode cX12_begins 166 = .ok (.iastore, 1) := by decide +kernel
theorem dX12_begins_167 : decode cX12_begins 167 = .ok (.aload_n 0, 1) := by decide +kernel
theorem dX12_begins_168 : decode cX12_begins 168 = .ok (.getfield 87, 3) := by decide +kernel
theorem dX12_begins_171 : decode cX12_begins 171 = .ok (.iload 6, 2) := by decide +kernel
theorem dX12_begins_173 : decode cX12_begins 173 = .ok (.iconst 4, 1) := by decide +kernel
theorem dX12_begins_174 : decode cX12_begins 174 = .ok (.iadd, 1) := by decide +kernel
theorem dX12_begins_175 : decode cX12_begins 175 = .ok (.iload 5, 2) := by decide +kernel
theorem dX12_begins_177 : decode cX12_begins 177 = .ok (.iastore, 1) := by decide +kernel
theorem dX12_begins_178 : decode cX12_begins 178 = .ok (.aload_n 0, 1) := by decide +kernel
theorem dX12_begins_179 : decode cX12_begins 179 = .ok (.getfield 87, 3) := by decide +kernel
theorem dX12_begins_182 : decode cX12_begins 182 = .ok (.iload 6, 2) := by decide +kernel
theorem dX12_begins_184 : decode cX12_begins 184 = .ok (.iconst 5, 1) := by decide +kernel
theorem dX12_begins_185 : decode cX12_begins 185 = .ok (.iadd, 1) := by decide +kernel
theorem dX12_begins_186 : decode cX12_begins 186 = .ok (.iload_n 1, 1) := by decide +kernel
theorem dX12_begins_187 : decode cX12_begins 187 = .ok (.bipush 6, 2) := by decide +kernel
theorem dX12_begins_189 : decode cX12_begins 189 = .ok (.if_icmp .ne 7, 3) := by decide +kernel
theorem dX12_begins_192 : decode cX12_begins 192 = .ok (.iconst 1, 1) := by decide +kernel
theorem dX12_begins_193 : decode cX12_begins 193 = .ok (.goto 4, 3) := by decide +kernel
theorem dX12_begins_196 : decode cX12_begins 196 = .ok (.iconst 0, 1) := by decide +kernel
theorem dX12_begins_197 : decode cX12_begins 197 = .ok (.iastore, 1) := by decide +kernel
theorem dX12_begins_198 : decode cX12_begins 198 = .ok (.aload_n 0, 1) := by decide +kernel
theorem dX12_begins_199 : decode cX12_begins 199 = .ok (.getfield 87, 3) := by decide +kernel
theorem dX12_begins_202 : decode cX12_begins 202 = .ok (.iload 6, 2) := by decide +kernel
theorem dX12_begins_204 : decode cX12_begins 204 = .ok (.bipush 6, 2) := by decide +kernel
theorem dX12_begins_206 : decode cX12_begins 206 = .ok (.iadd, 1) := by decide +kernel
theorem dX12_begins_207 : decode cX12_begins 207 = .ok (.iconst 0, 1) := by decide +kernel
theorem dX12_begins_208 : decode cX12_begins 208 = .ok (.iastore, 1) := by decide +kernel
theorem dX12_begins_209 : decode cX12_begins 209 = .ok (.aload_n 0, 1) := by decide +kernel
theorem dX12_begins_210 : decode cX12_begins 210 = .ok (.getfield 87, 3) := by decide +kernel
theorem dX12_begins_213 : decode cX12_begins 213 = .ok (.iload 6, 2) := by decide +kernel
theorem dX12_begins_215 : decode cX12_begins 215 = .ok (.bipush 7, 2) := by decide +kernel
theorem dX12_begins_217 : decode cX12_begins 217 = .ok (.iadd, 1) := by decide +kernel
theorem dX12_begins_218 : decode cX12_begins 218 = .ok (.iconst 0, 1) := by decide +kernel
theorem dX12_begins_219 : decode cX12_begins 219 = .ok (.iastore, 1) := by decide +kernel
theorem dX12_begins_220 : decode cX12_begins 220 = .ok (.aload_n 0, 1) := by decide +kernel
theorem dX12_begins_221 : decode cX12_begins 221 = .ok (.getfield 87, 3) := by decide +kernel
theorem dX12_begins_224 : decode cX12_begins 224 = .ok (.iload 6, 2) := by decide +kernel
theorem dX12_begins_226 : decode cX12_begins 226 = .ok (.bipush 8, 2) := by decide +kernel
theorem dX12_begins_228 : decode cX12_begins 228 = .ok (.iadd, 1) := by decide +kernel
theorem dX12_begins_229 : decode cX12_begins 229 = .ok (.aload_n 0, 1) := by decide +kernel
theorem dX12_begins_230 : decode cX12_begins 230 = .ok (.getfield 343, 3) := by decide +kernel
theorem dX12_begins_233 : decode cX12_begins 233 = .ok (.iload_n 1, 1) := by decide +kernel
theorem dX12_begins_234 : decode cX12_begins 234 = .ok (.iconst 1, 1) := by decide +kernel
theorem dX12_begins_235 : decode cX12_begins 235 = .ok (.iconst 0, 1) := by decide +kernel
theorem dX12_begins_236 : decode cX12_begins 236 = .ok (.invokestatic 387, 3) := by decide +kernel
theorem dX12_begins_239 : decode cX12_begins 239 = .ok (.iadd, 1) := by decide +kernel
theorem dX12_begins_240 : decode cX12_begins 240 = .ok (.iastore, 1) := by decide +kernel
theorem dX12_begins_241 : decode cX12_begins 241 = .ok (.iconst 1, 1) := by decide +kernel
theorem dX12_begins_242 : decode cX12_begins 242 = .ok (.ireturn, 1) := by decide +kernel
theorem e_X12_begins_197 {X : gk_X} {F : Nat} {l0 : Nat} {l1 : Int32} {l6 : Int32} {s0 : Int32} {s1 : Int32} {s2 : Nat} {S : gk_S} {r : (Int32 × gk_S)} (h0 : f_X12_begins_197 F l0 l1 l6 s0 s1 s2 S = some r) : EvW X m_X12_begins 2 0 0 197 [some (.ref l0), some (.int l1), none, none, none, none, some (.int l6), none] [.int s0, .int s1, .ref s2] S (qRI r) := by
  unfold f_X12_begins_197 at h0
  obtain ⟨g77, h78⟩ := qk_el h0; clear h0
  obtain ⟨g79, h80⟩ := qk_el h78; clear h78
  obtain ⟨S81, e82, h83⟩ := qv_el h80; clear h80
  refine yv_iast (pc := 197) (isb_el g77) (inb_el g79) e82 dX12_begins_197 ?_
  refine ev_aload_n (pc := 198) (i := 0) rfl rfl rfl dX12_begins_198 ?_
  obtain ⟨g84, h85⟩ := qk_el h83; clear h83
  obtain ⟨b86, e87, h88⟩ := qP_el h85; clear h85
  refine xv_getP (pc := 199) fn_931 (isb_el g84) e87 gw_1171 dX12_begins_199 ?_
  refine ev_iload (pc := 202) (i := 6) rfl dX12_begins_202 ?_
  refine ev_bipush (pc := 204) (v := 6) (by decide) dX12_begins_204 ?_
  refine ev_iadd (pc := 206)  dX12_begins_206 ?_
  refine ev_iconst (pc := 207) (v := 0) (by decide) dX12_begins_207 ?_
  obtain ⟨g89, h90⟩ := qk_el h88; clear h88
  obtain ⟨g91, h92⟩ := qk_el h90; clear h90
  obtain ⟨S93, e94, h95⟩ := qv_el h92; clear h92
  refine yv_iast (pc := 208) (isb_el g89) (inb_el g91) e94 dX12_begins_208 ?_
  refine ev_aload_n (pc := 209) (i := 0) rfl rfl rfl dX12_begins_209 ?_
  obtain ⟨b96, e97, h98⟩ := qP_el h95; clear h95
  refine xv_getP (pc := 210) fn_931 (is_wI (isb_el g84) e94) e97 gw_1171 dX12_begins_210 ?_
  refine ev_iload (pc := 213) (i := 6) rfl dX12_begins_213 ?_
  refine ev_bipush (pc := 215) (v := 7) (by decide) dX12_begins_215 ?_
  refine ev_iadd (pc := 217)  dX12_begins_217 ?_
  refine ev_iconst (pc := 218) (v := 0) (by decide) dX12_begins_218 ?_
  obtain ⟨g99, h100⟩ := qk_el h98; clear h98
  obtain ⟨g101, h102⟩ := qk_el h100; clear h100
  obtain ⟨S103, e104, h105⟩ := qv_el h102; clear h102
  refine yv_iast (pc := 219) (isb_el g99) (inb_el g101) e104 dX12_begins_219 ?_
  refine ev_aload_n (pc := 220) (i := 0) rfl rfl rfl dX12_begins_220 ?_
  obtain ⟨b106, e107, h108⟩ := qP_el h105; clear h105
  refine xv_getP (pc := 221) fn_931 (is_wI (is_wI (isb_el g84) e94) e104) e107 gw_1171 dX12_begins_221 ?_
  refine ev_iload (pc := 224) (i := 6) rfl dX12_begins_224 ?_
  refine ev_bipush (pc := 226) (v := 8) (by decide) dX12_begins_226 ?_
  refine ev_iadd (pc := 228)  dX12_begins_228 ?_
  refine ev_aload_n (pc := 229) (i := 0) rfl rfl rfl dX12_begins_229 ?_
  obtain ⟨x109, e110, h111⟩ := qv_el h108; clear h108
  refine xv_getIv (pc := 230) fn_934 (is_wI (is_wI (isb_el g84) e94) e104) e110 gw_1174 dX12_begins_230 ?_
  refine ev_iload_n (pc := 233) (i := 1) rfl rfl dX12_begins_233 ?_
  refine ev_iconst (pc := 234) (v := 1) (by decide) dX12_begins_234 ?_
  refine ev_iconst (pc := 235) (v := 0) (by decide) dX12_begins_235 ?_
  obtain ⟨x112, S113, e114, h115⟩ := qc_el h111; clear h111
  refine xv_callS (pc := 236) (st := [.int x109, .int (l6 + 8), .ref b106]) (as := [.int l1, .int 1, .int 0]) (v := (some (.int x112))) (S' := S113) ok_X12_lasts (e_X12_lasts e114) (by decide) rfl (Nat.le_of_ble_eq_true rfl) rfl gw_1571 dX12_begins_236 ?_
  refine ev_iadd (pc := 239)  dX12_begins_239 ?_
  obtain ⟨g116, h117⟩ := qk_el h115; clear h115
  obtain ⟨g118, h119⟩ := qk_el h117; clear h117
  obtain ⟨S120, e121, h122⟩ := qv_el h119; clear h119
  refine yv_iast (pc := 240) (isb_el g116) (inb_el g118) e121 dX12_begins_240 ?_
  refine ev_iconst (pc := 241) (v := 1) (by decide) dX12_begins_241 ?_
  exact ev_ireturn (pc := 242) rfl rfl (qRI_eq h122) dX12_begins_242
theorem e_X12_begins_109 {X : gk_X} {F : Nat} {l0 : Nat} {l1 : Int32} {l2 : Int32} {l3 : Int32} {l4 : Int32} {l5 : Int32} {S : gk_S} {r : (Int32 × gk_S)} (h0 : f_X12_begins_109 F l0 l1 l2 l3 l4 l5 S = some r) : EvW X m_X12_begins 2 0 0 109 [some (.ref l0), some (.int l1), some (.int l2), some (.int l3), some (.int l4), some (.int l5), none, none] [] S (qRI r) := by
  unfold f_X12_begins_109 at h0
  refine ev_bipush (pc := 109) (v := 9) (by decide) dX12_begins_109 ?_
  refine ev_aload_n (pc := 111) (i := 0) rfl rfl rfl dX12_begins_111 ?_
  obtain ⟨g11, h12⟩ := qk_el h0; clear h0
  obtain ⟨x13, e14, h15⟩ := qv_el h12; clear h12
  refine xv_getIv (pc := 112) fn_932 (isb_el g11) e14 gw_1172 dX12_begins_112 ?_
  refine ev_imul (pc := 115)  dX12_begins_115 ?_
  refine ev_istore (pc := 116) (L' := [some (.ref l0), some (.int l1), some (.int l2), some (.int l3), some (.int l4), some (.int l5), some (.int (9 * x13)), none]) (i := 6) (by decide) rfl rfl dX12_begins_116 ?_
  refine ev_aload_n (pc := 118) (i := 0) rfl rfl rfl dX12_begins_118 ?_
  refine ev_dup (pc := 119) (.inr rfl) dX12_begins_119 ?_
  obtain ⟨x16, e17, h18⟩ := qv_el h15; clear h15
  refine xv_getIv (pc := 120) fn_932 (isb_el g11) e17 gw_1172 dX12_begins_120 ?_
  refine ev_iconst (pc := 123) (v := 1) (by decide) dX12_begins_123 ?_
  refine ev_iadd (pc := 124)  dX12_begins_124 ?_
  obtain ⟨S19, e20, h21⟩ := qv_el h18; clear h18
  refine yv_putI (pc := 125) fn_932 ⟨rfl, rfl⟩ (isb_el g11) e20 gw_1172 dX12_begins_125 ?_
  refine ev_aload_n (pc := 128) (i := 0) rfl rfl rfl dX12_begins_128 ?_
  obtain ⟨b22, e23, h24⟩ := qP_el h21; clear h21
  refine xv_getP (pc := 129) fn_931 (is_sI (isb_el g11) e20) e23 gw_1171 dX12_begins_129 ?_
  refine ev_iload (pc := 132) (i := 6) rfl dX12_begins_132 ?_
  refine ev_iload_n (pc := 134) (i := 1) rfl rfl dX12_begins_134 ?_
  obtain ⟨g25, h26⟩ := qk_el h24; clear h24
  obtain ⟨g27, h28⟩ := qk_el h26; clear h26
  obtain ⟨S29, e30, h31⟩ := qv_el h28; clear h28
  refine yv_iast (pc := 135) (isb_el g25) (inb_el g27) e30 dX12_begins_135 ?_
  refine ev_aload_n (pc := 136) (i := 0) rfl rfl rfl dX12_begins_136 ?_
  obtain ⟨b32, e33, h34⟩ := qP_el h31; clear h31
  refine xv_getP (pc := 137) fn_931 (is_wI (is_sI (isb_el g11) e20) e30) e33 gw_1171 dX12_begins_137 ?_
  refine ev_iload (pc := 140) (i := 6) rfl dX12_begins_140 ?_
  refine ev_iconst (pc := 142) (v := 1) (by decide) dX12_begins_142 ?_
  refine ev_iadd (pc := 143)  dX12_begins_143 ?_
  refine ev_iload_n (pc := 144) (i := 2) rfl rfl dX12_begins_144 ?_
  obtain ⟨g35, h36⟩ := qk_el h34; clear h34
  obtain ⟨g37, h38⟩ := qk_el h36; clear h36
  obtain ⟨S39, e40, h41⟩ := qv_el h38; clear h38
  refine yv_iast (pc := 145) (isb_el g35) (inb_el g37) e40 dX12_begins_145 ?_
  refine ev_aload_n (pc := 146) (i := 0) rfl rfl rfl dX12_begins_146 ?_
  obtain ⟨b42, e43, h44⟩ := qP_el h41; clear h41
  refine xv_getP (pc := 147) fn_931 (is_wI (is_wI (is_sI (isb_el g11) e20) e30) e40) e43 gw_1171 dX12_begins_147 ?_
  refine ev_iload (pc := 150) (i := 6) rfl dX12_begins_150 ?_
  refine ev_iconst (pc := 152) (v := 2) (by decide) dX12_begins_152 ?_
  refine ev_iadd (pc := 153)  dX12_begins_153 ?_
  refine ev_iload_n (pc := 154) (i := 3) rfl rfl dX12_begins_154 ?_
  obtain ⟨g45, h46⟩ := qk_el h44; clear h44
  obtain ⟨g47, h48⟩ := qk_el h46; clear h46
  obtain ⟨S49, e50, h51⟩ := qv_el h48; clear h48
  refine yv_iast (pc := 155) (isb_el g45) (inb_el g47) e50 dX12_begins_155 ?_
  refine ev_aload_n (pc := 156) (i := 0) rfl rfl rfl dX12_begins_156 ?_
  obtain ⟨b52, e53, h54⟩ := qP_el h51; clear h51
  refine xv_getP (pc := 157) fn_931 (is_wI (is_wI (is_wI (is_sI (isb_el g11) e20) e30) e40) e50) e53 gw_1171 dX12_begins_157 ?_
  refine ev_iload (pc := 160) (i := 6) rfl dX12_begins_160 ?_
  refine ev_iconst (pc := 162) (v := 3) (by decide) dX12_begins_162 ?_
  refine ev_iadd (pc := 163)  dX12_begins_163 ?_
  refine ev_iload (pc := 164) (i := 4) rfl dX12_begins_164 ?_
  obtain ⟨g55, h56⟩ := qk_el h54; clear h54
  obtain ⟨g57, h58⟩ := qk_el h56; clear h56
  obtain ⟨S59, e60, h61⟩ := qv_el h58; clear h58
  refine yv_iast (pc := 166) (isb_el g55) (inb_el g57) e60 dX12_begins_166 ?_
  refine ev_aload_n (pc := 167) (i := 0) rfl rfl rfl dX12_begins_167 ?_
  obtain ⟨b62, e63, h64⟩ := qP_el h61; clear h61
  refine xv_getP (pc := 168) fn_931 (is_wI (is_wI (is_wI (is_wI (is_sI (isb_el g11) e20) e30) e40) e50) e60) e63 gw_1171 dX12_begins_168 ?_
  refine ev_iload (pc := 171) (i := 6) rfl dX12_begins_171 ?_
  refine ev_iconst (pc := 173) (v := 4) (by decide) dX12_begins_173 ?_
  refine ev_iadd (pc := 174)  dX12_begins_174 ?_
  refine ev_iload (pc := 175) (i := 5) rfl dX12_begins_175 ?_
  obtain ⟨g65, h66⟩ := qk_el h64; clear h64
  obtain ⟨g67, h68⟩ := qk_el h66; clear h66
  obtain ⟨S69, e70, h71⟩ := qv_el h68; clear h68
  refine yv_iast (pc := 177) (isb_el g65) (inb_el g67) e70 dX12_begins_177 ?_
  refine ev_aload_n (pc := 178) (i := 0) rfl rfl rfl dX12_begins_178 ?_
  obtain ⟨b72, e73, h74⟩ := qP_el h71; clear h71
  refine xv_getP (pc := 179) fn_931 (is_wI (is_wI (is_wI (is_wI (is_wI (is_sI (isb_el g11) e20) e30) e40) e50) e60) e70) e73 gw_1171 dX12_begins_179 ?_
  refine ev_iload (pc := 182) (i := 6) rfl dX12_begins_182 ?_
  refine ev_iconst (pc := 184) (v := 5) (by decide) dX12_begins_184 ?_
  refine ev_iadd (pc := 185)  dX12_begins_185 ?_
  refine ev_iload_n (pc := 186) (i := 1) rfl rfl dX12_begins_186 ?_
  refine ev_bipush (pc := 187) (v := 6) (by decide) dX12_begins_187 ?_
  refine ev_ic_ne (pc := 189) (tgt := 196) (by decide) dX12_begins_189 (fun c75 => ?_) (fun c75 => ?_)
  · replace h74 := qi_f h74 c75
    refine ev_iconst (pc := 196) (v := 0) (by decide) dX12_begins_196 ?_
    exact ev_weak (qL_s (qL_s (qL_n (qL_n (qL_n (qL_n (qL_s (qL_n qL_nil)))))))) (e_X12_begins_197 h74)
  · replace h74 := qi_t h74 c75
    refine ev_iconst (pc := 192) (v := 1) (by decide) dX12_begins_192 ?_
    refine ev_goto (pc := 193) (tgt := 197) (by decide) dX12_begins_193 ?_
    exact ev_weak (qL_s (qL_s (qL_n (qL_n (qL_n (qL_n (qL_s (qL_n qL_nil)))))))) (e_X12_begins_197 h74)
theorem e_X12_begins_17 {X : gk_X} {F : Nat} : ∀ (n : Nat) (l0 : Nat) (l1 : Int32) (l2 : Int32) (l3 : Int32) (l4 : Int32) (l5 : Int32) (l6 : Int32) (l7 : Int32) (S : gk_S) (r : (Int32 × gk_S)), f_X12_begins_17 F n l0 l1 l2 l3 l4 l5 l6 l7 S = some r → EvW X m_X12_begins 2 0 0 17 [some (.ref l0), some (.int l1), some (.int l2), some (.int l3), some (.int l4), some (.int l5), some (.int l6), some (.int l7)] [] S (qRI r) := by
  intro n
  induction n with
  | zero => intro l0 l1 l2 l3 l4 l5 l6 l7 S r h0; rw [f_X12_begins_17] at h0; cases h0
  | succ n ih =>
    intro l0 l1 l2 l3 l4 l5 l6 l7 S r h0; rw [f_X12_begins_17] at h0
    refine ev_iload (pc := 17) (i := 7) rfl dX12_begins_17 ?_
    refine ev_aload_n (pc := 19) (i := 0) rfl rfl rfl dX12_begins_19 ?_
    obtain ⟨g123, h124⟩ := qk_el h0; clear h0
    obtain ⟨x125, e126, h127⟩ := qv_el h124; clear h124
    refine xv_getIv (pc := 20) fn_932 (isb_el g123) e126 gw_1172 dX12_begins_20 ?_
    refine ev_ic_ge (pc := 23) (tgt := 86) (by decide) dX12_begins_23 (fun c128 => ?_) (fun c128 => ?_)
    · replace h127 := qi_t h127 c128
      refine ev_iload (pc := 86) (i := 6) rfl dX12_begins_86 ?_
      refine ev_if_ge (pc := 88) (tgt := 93) (by decide) dX12_begins_88 (fun c130 => ?_) (fun c130 => ?_)
      · replace h127 := qi_t h127 c130
        refine ev_aload_n (pc := 93) (i := 0) rfl rfl rfl dX12_begins_93 ?_
        refine ev_iload (pc := 94) (i := 6) rfl dX12_begins_94 ?_
        obtain ⟨x132, S133, e134, h135⟩ := qc_el h127; clear h127
        refine xv_callV (pc := 96) (st := []) (as := [.int l6]) (v := none) (S' := S133) ok_X12_goes (e_X12_goes e134) (isb_el g123) (by decide) rfl (Nat.le_of_ble_eq_true rfl) rfl gw_1536 dX12_begins_96 ?_
        refine ev_aload_n (pc := 99) (i := 0) rfl rfl rfl dX12_begins_99 ?_
        refine ev_dup (pc := 100) (.inr rfl) dX12_begins_100 ?_
        obtain ⟨g136, h137⟩ := qk_el h135; clear h135
        obtain ⟨x138, e139, h140⟩ := qv_el h137; clear h137
        refine xv_getIv (pc := 101) fn_936 (isb_el g136) e139 gw_1176 dX12_begins_101 ?_
        refine ev_iconst (pc := 104) (v := 1) (by decide) dX12_begins_104 ?_
        refine ev_iadd (pc := 105)  dX12_begins_105 ?_
        obtain ⟨S141, e142, h143⟩ := qv_el h140; clear h140
        refine yv_putI (pc := 106) fn_936 ⟨rfl, rfl⟩ (isb_el g136) e142 gw_1176 dX12_begins_106 ?_
        exact ev_weak (qL_s (qL_s (qL_s (qL_s (qL_s (qL_s (qL_n (qL_n qL_nil)))))))) (e_X12_begins_109 h143)
      · replace h127 := qi_f h127 c130
        refine ev_iconst (pc := 91) (v := 0) (by decide) dX12_begins_91 ?_
        exact ev_ireturn (pc := 92) rfl rfl (qRI_eq h127) dX12_begins_92
    · replace h127 := qi_f h127 c128
      refine ev_aload_n (pc := 26) (i := 0) rfl rfl rfl dX12_begins_26 ?_
      obtain ⟨b144, e145, h146⟩ := qP_el h127; clear h127
      refine xv_getP (pc := 27) fn_931 (isb_el g123) e145 gw_1171 dX12_begins_27 ?_
      refine ev_bipush (pc := 30) (v := 9) (by decide) dX12_begins_30 ?_
      refine ev_iload (pc := 32) (i := 7) rfl dX12_begins_32 ?_
      refine ev_imul (pc := 34)  dX12_begins_34 ?_
      refine ev_bipush (pc := 35) (v := 6) (by decide) dX12_begins_35 ?_
      refine ev_iadd (pc := 37)  dX12_begins_37 ?_
      obtain ⟨g147, h148⟩ := qk_el h146; clear h146
      obtain ⟨g149, h150⟩ := qk_el h148; clear h148
      obtain ⟨x151, e152, h153⟩ := qv_el h150; clear h150
      refine yv_iald (pc := 38) (isb_el g147) (inb_el g149) e152 dX12_begins_38 ?_
      refine ev_if_ne (pc := 39) (tgt := 80) (by decide) dX12_begins_39 (fun c154 => ?_) (fun c154 => ?_)
      · replace h153 := qi_f h153 c154
        refine ev_iinc (pc := 80) (L' := [some (.ref l0), some (.int l1), some (.int l2), some (.int l3), some (.int l4), some (.int l5), some (.int l6), some (.int (l7 + 1))]) (i := 7) (v := (l7 + 1)) rfl rfl (by decide) rfl rfl dX12_begins_80 ?_
        refine ev_goto (pc := 83) (tgt := 17) (by decide) dX12_begins_83 ?_
        exact (ev_weak (qL_s (qL_s (qL_s (qL_s (qL_s (qL_s (qL_s (qL_s qL_nil)))))))) (ih _ _ _ _ _ _ _ _ _ _ h153))
      · replace h153 := qi_t h153 c154
        refine ev_iload (pc := 42) (i := 6) rfl dX12_begins_42 ?_
        refine ev_if_lt (pc := 44) (tgt := 76) (by decide) dX12_begins_44 (fun c156 => ?_) (fun c156 => ?_)
        · replace h153 := qi_t h153 c156
          refine ev_iload (pc := 76) (i := 7) rfl dX12_begins_76 ?_
          refine ev_istore (pc := 78) (L' := [some (.ref l0), some (.int l1), some (.int l2), some (.int l3), some (.int l4), some (.int l5), some (.int l7), some (.int l7)]) (i := 6) (by decide) rfl rfl dX12_begins_78 ?_
          refine ev_iinc (pc := 80) (L' := [some (.ref l0), some (.int l1), some (.int l2), some (.int l3), some (.int l4), some (.int l5), some (.int l7), some (.int (l7 + 1))]) (i := 7) (v := (l7 + 1)) rfl rfl (by decide) rfl rfl dX12_begins_80 ?_
          refine ev_goto (pc := 83) (tgt := 17) (by decide) dX12_begins_83 ?_
          exact (ev_weak (qL_s (qL_s (qL_s (qL_s (qL_s (qL_s (qL_s (qL_s qL_nil)))))))) (ih _ _ _ _ _ _ _ _ _ _ h153))
        · replace h153 := qi_f h153 c156
          refine ev_aload_n (pc := 47) (i := 0) rfl rfl rfl dX12_begins_47 ?_
          obtain ⟨b158, e159, h160⟩ := qP_el h153; clear h153
          refine xv_getP (pc := 48) fn_931 (isb_el g123) e159 gw_1171 dX12_begins_48 ?_
          refine ev_bipush (pc := 51) (v := 9) (by decide) dX12_begins_51 ?_
          refine ev_iload (pc := 53) (i := 7) rfl dX12_begins_53 ?_
          refine ev_imul (pc := 55)  dX12_begins_55 ?_
          refine ev_bipush (pc := 56) (v := 8) (by decide) dX12_begins_56 ?_
          refine ev_iadd (pc := 58)  dX12_begins_58 ?_
          obtain ⟨g161, h162⟩ := qk_el h160; clear h160
          obtain ⟨g163, h164⟩ := qk_el h162; clear h162
          obtain ⟨x165, e166, h167⟩ := qv_el h164; clear h164
          refine yv_iald (pc := 59) (isb_el g161) (inb_el g163) e166 dX12_begins_59 ?_
          refine ev_aload_n (pc := 60) (i := 0) rfl rfl rfl dX12_begins_60 ?_
          obtain ⟨b168, e169, h170⟩ := qP_el h167; clear h167
          refine xv_getP (pc := 61) fn_931 (isb_el g123) e169 gw_1171 dX12_begins_61 ?_
          refine ev_bipush (pc := 64) (v := 9) (by decide) dX12_begins_64 ?_
          refine ev_iload (pc := 66) (i := 6) rfl dX12_begins_66 ?_
          refine ev_imul (pc := 68)  dX12_begins_68 ?_
          refine ev_bipush (pc := 69) (v := 8) (by decide) dX12_begins_69 ?_
          refine ev_iadd (pc := 71)  dX12_begins_71 ?_
          obtain ⟨g171, h172⟩ := qk_el h170; clear h170
          obtain ⟨g173, h174⟩ := qk_el h172; clear h172
          obtain ⟨x175, e176, h177⟩ := qv_el h174; clear h174
          refine yv_iald (pc := 72) (isb_el g171) (inb_el g173) e176 dX12_begins_72 ?_
          refine ev_ic_ge (pc := 73) (tgt := 80) (by decide) dX12_begins_73 (fun c178 => ?_) (fun c178 => ?_)
          · replace h177 := qi_t h177 c178
            refine ev_iinc (pc := 80) (L' := [some (.ref l0), some (.int l1), some (.int l2), some (.int l3), some (.int l4), some (.int l5), some (.int l6), some (.int (l7 + 1))]) (i := 7) (v := (l7 + 1)) rfl rfl (by decide) rfl rfl dX12_begins_80 ?_
            refine ev_goto (pc := 83) (tgt := 17) (by decide) dX12_begins_83 ?_
            exact (ev_weak (qL_s (qL_s (qL_s (qL_s (qL_s (qL_s (qL_s (qL_s qL_nil)))))))) (ih _ _ _ _ _ _ _ _ _ _ h177))
          · replace h177 := qi_f h177 c178
            refine ev_iload (pc := 76) (i := 7) rfl dX12_begins_76 ?_
            refine ev_istore (pc := 78) (L' := [some (.ref l0), some (.int l1), some (.int l2), some (.int l3), some (.int l4), some (.int l5), some (.int l7), some (.int l7)]) (i := 6) (by decide) rfl rfl dX12_begins_78 ?_
            refine ev_iinc (pc := 80) (L' := [some (.ref l0), some (.int l1), some (.int l2), some (.int l3), some (.int l4), some (.int l5), some (.int l7), some (.int (l7 + 1))]) (i := 7) (v := (l7 + 1)) rfl rfl (by decide) rfl rfl dX12_begins_80 ?_
            refine ev_goto (pc := 83) (tgt := 17) (by decide) dX12_begins_83 ?_
            exact (ev_weak (qL_s (qL_s (qL_s (qL_s (qL_s (qL_s (qL_s (qL_s qL_nil)))))))) (ih _ _ _ _ _ _ _ _ _ _ h177))
theorem e_X12_begins {X : gk_X} {F : Nat} {S : gk_S} {a : Nat} {p0 : Int32} {p1 : Int32} {p2 : Int32} {p3 : Int32} {p4 : Int32} {r : (Int32 × gk_S)} (h0 : f_X12_begins F S a p0 p1 p2 p3 p4 = some r) : EvM X m_X12_begins 2 0 0 [.ref a, .int p0, .int p1, .int p2, .int p3, .int p4] S (qRI r) := by
  unfold f_X12_begins at h0
  refine ev_method (by decide +kernel) rfl rfl (Nat.le_of_ble_eq_true rfl) ?_
  show EvW X m_X12_begins 2 0 0 0 [some (.ref a), some (.int p0), some (.int p1), some (.int p2), some (.int p3), some (.int p4), none, none] [] S _
  refine ev_aload_n (pc := 0) (i := 0) rfl rfl rfl dX12_begins_0 ?_
  obtain ⟨g1, h2⟩ := qk_el h0; clear h0
  obtain ⟨x3, e4, h5⟩ := qv_el h2; clear h2
  refine xv_getIv (pc := 1) fn_932 (isb_el g1) e4 gw_1172 dX12_begins_1 ?_
  refine ev_aload_n (pc := 4) (i := 0) rfl rfl rfl dX12_begins_4 ?_
  obtain ⟨x6, e7, h8⟩ := qv_el h5; clear h5
  refine xv_getIv (pc := 5) fn_933 (isb_el g1) e7 gw_1173 dX12_begins_5 ?_
  refine ev_ic_ne (pc := 8) (tgt := 109) (by decide) dX12_begins_8 (fun c9 => ?_) (fun c9 => ?_)
  · replace h8 := qi_f h8 c9
    exact ev_weak (qL_s (qL_s (qL_s (qL_s (qL_s (qL_s (qL_n (qL_n qL_nil)))))))) (e_X12_begins_109 h8)
  · replace h8 := qi_t h8 c9
    refine ev_iconst (pc := 11) (v := -1) (by decide) dX12_begins_11 ?_
    refine ev_istore (pc := 12) (L' := [some (.ref a), some (.int p0), some (.int p1), some (.int p2), some (.int p3), some (.int p4), some (.int (-1)), none]) (i := 6) (by decide) rfl rfl dX12_begins_12 ?_
    refine ev_iconst (pc := 14) (v := 0) (by decide) dX12_begins_14 ?_
    refine ev_istore (pc := 15) (L' := [some (.ref a), some (.int p0), some (.int p1), some (.int p2), some (.int p3), some (.int p4), some (.int (-1)), some (.int 0)]) (i := 7) (by decide) rfl rfl dX12_begins_15 ?_
    exact ev_weak (qL_s (qL_s (qL_s (qL_s (qL_s (qL_s (qL_s (qL_s qL_nil)))))))) (e_X12_begins_17 F _ _ _ _ _ _ _ _ _ _ h8)
theorem dX12_comes_0 : decode cX12_comes 0 = .ok (.aload_n 0, 1) := by decide +kernel
theorem dX12_comes_1 : decode cX12_comes 1 = .ok (.dup, 1) := by decide +kernel
theorem dX12_comes_2 : decode cX12_comes 2 = .ok (.getfield 363, 3) := by decide +kernel
theorem dX12_comes_5 : decode cX12_comes 5 = .ok (.iconst 1, 1) := by decide +kernel
theorem dX12_comes_6 : decode cX12_comes 6 = .ok (.iadd, 1) := by decide +kernel
theorem dX12_comes_7 : decode cX12_comes 7 = .ok (.putfield 363, 3) := by decide +kernel
theorem dX12_comes_10 : decode cX12_comes 10 = .ok (.aload_n 0, 1) := by decide +kernel
theorem dX12_comes_11 : decode cX12_comes 11 = .ok (.getfield 93, 3) := by decide +kernel
theorem dX12_comes_14 : decode cX12_comes 14 = .ok (.iconst 0, 1) := by decide +kernel
theorem dX12_comes_15 : decode cX12_comes 15 = .ok (.iload_n 1, 1) := by decide +kernel
theorem dX12_comes_16 : decode cX12_comes 16 = .ok (.iastore, 1) := by decide +kernel
theorem dX12_comes_17 : decode cX12_comes 17 = .ok (.aload_n 0, 1) := by decide +kernel
theorem dX12_comes_18 : decode cX12_comes 18 = .ok (.getfield 93, 3) := by decide +kernel
theorem dX12_comes_21 : decode cX12_comes 21 = .ok (.iconst 1, 1) := by decide +kernel
theorem dX12_comes_22 : decode cX12_comes 22 = .ok (.iload_n 2, 1) := by decide +kernel
theorem dX12_comes_23 : decode cX12_comes 23 = .ok (.iastore, 1) := by decide +kernel
theorem dX12_comes_24 : decode cX12_comes 24 = .ok (.aload_n 0, 1) := by decide +kernel
theorem dX12_comes_25 : decode cX12_comes 25 = .ok (.getfield 93, 3) := by decide +kernel
theorem dX12_comes_28 : decode cX12_comes 28 = .ok (.iconst 2, 1) := by decide +kernel
theorem dX12_comes_29 : decode cX12_comes 29 = .ok (.iload_n 3, 1) := by decide +kernel
theorem dX12_comes_30 : decode cX12_comes 30 = .ok (.iastore, 1) := by decide +kernel
theorem dX12_comes_31 : decode cX12_comes 31 = .ok (.aload_n 0, 1) := by decide +kernel
theorem dX12_comes_32 : decode cX12_comes 32 = .ok (.getfield 93, 3) := by decide +kernel
theorem dX12_comes_35 : decode cX12_comes 35 = .ok (.iconst 3, 1) := by decide +kernel
theorem dX12_comes_36 : decode cX12_comes 36 = .ok (.iload 4, 2) := by decide +kernel
theorem dX12_comes_38 : decode cX12_comes 38 = .ok (.iastore, 1) := by decide +kernel
theorem dX12_comes_39 : decode cX12_comes 39 = .ok (.aload_n 0, 1) := by decide +kernel
theorem dX12_comes_40 : decode cX12_comes 40 = .ok (.getfield 93, 3) := by decide +kernel
theorem dX12_comes_43 : decode cX12_comes 43 = .ok (.iconst 4, 1) := by decide +kernel
theorem dX12_comes_44 : decode cX12_comes 44 = .ok (.iload 5, 2) := by decide +kernel
theorem dX12_comes_46 : decode cX12_comes 46 = .ok (.iastore, 1) := by decide +kernel
theorem dX12_comes_47 : decode cX12_comes 47 = .ok (.aload_n 0, 1) := by decide +kernel
theorem dX12_comes_48 : decode cX12_comes 48 = .ok (.getfield 93, 3) := by decide +kernel
theorem dX12_comes_51 : decode cX12_comes 51 = .ok (.iconst 5, 1) := by decide +kernel
theorem dX12_comes_52 : decode cX12_comes 52 = .ok (.iload 6, 2) := by decide +kernel
theorem dX12_comes_54 : decode cX12_comes 54 = .ok (.iastore, 1) := by decide +kernel
theorem dX12_comes_55 : decode cX12_comes 55 = .ok (.aload_n 0, 1) := by decide +kernel
theorem dX12_comes_56 : decode cX12_comes 56 = .ok (.getfield 93, 3) := by decide +kernel
theorem dX12_comes_59 : decode cX12_comes 59 = .ok (.bipush 6, 2) := by decide +kernel
theorem dX12_comes_61 : decode cX12_comes 61 = .ok (.iload 7, 2) := by decide +kernel
theorem dX12_comes_63 : decode cX12_comes 63 = .ok (.iastore, 1) := by decide +kernel
theorem dX12_comes_64 : decode cX12_comes 64 = .ok (.aload_n 0, 1) := by decide +kernel
theorem dX12_comes_65 : decode cX12_comes 65 = .ok (.getfield 357, 3) := by decide +kernel
theorem dX12_comes_68 : decode cX12_comes 68 = .ok (.ifCond .eq 44, 3) := by decide +kernel
theorem dX12_comes_71 : decode cX12_comes 71 = .ok (.aload_n 0, 1) := by decide +kernel
theorem dX12_comes_72 : decode cX12_comes 72 = .ok (.aload_n 0, 1) := by decide +kernel
theorem dX12_comes_73 : decode cX12_comes 73 = .ok (.getfield 96, 3) := by decide +kernel
theorem dX12_comes_76 : decode cX12_comes 76 = .ok (.iconst 0, 1) := by decide +kernel
theorem dX12_comes_77 : decode cX12_comes 77 = .ok (.iaload, 1) := by decide +kernel
theorem dX12_comes_78 : decode cX12_comes 78 = .ok (.aload_n 0, 1) := by decide +kernel
theorem dX12_comes_79 : decode cX12_comes 79 = .ok (.getfield 96, 3) := by decide +kernel
theorem dX12_comes_82 : decode cX12_comes 82 = .ok (.iconst 1, 1) := by decide +kernel
theorem dX12_comes_83 : decode cX12_comes 83 = .ok (.iaload, 1) := by decide +kernel
theorem dX12_comes_84 : decode cX12_comes 84 = .ok (.aload_n 0, 1) := by decide +kernel
theorem dX12_comes_85 : decode cX12_comes 85 = .ok (.getfield 96, 3) := by decide +kernel
theorem dX12_comes_88 : decode cX12_comes 88 = .ok (.iconst 2, 1) := by decide +kernel
theorem dX12_comes_89 : decode cX12_comes 89 = .ok (.iaload, 1) := by decide +kernel
theorem dX12_comes_90 : decode cX12_comes 90 = .ok (.aload_n 0, 1) := by decide +kernel
theorem dX12_comes_91 : decode cX12_comes 91 = .ok (.getfield 96, 3) := by decide +kernel
theorem dX12_comes_94 : decode cX12_comes 94 = .ok (.iconst 3, 1) := by decide +kernel
theorem dX12_comes_95 : decode cX12_comes 95 = .ok (.iaload, 1) := by decide +kernel
theorem dX12_comes_96 : decode cX12_comes 96 = .ok (.aload_n 0, 1) := by decide +kernel
theorem dX12_comes_97 : decode cX12_comes 97 = .ok (.getfield 96, 3) := by decide +kernel
theorem dX12_comes_100 : decode cX12_comes 100 = .ok (.iconst 4, 1) := by decide +kernel
theorem dX12_comes_101 : decode cX12_comes 101 = .ok (.iaload, 1) := by decide +kernel
theorem dX12_comes_102 : decode cX12_comes 102 = .ok (.invokevirtual 366, 3) := by decide +kernel
theorem dX12_comes_105 : decode cX12_comes 105 = .ok (.ifCond .lt 7, 3) := by decide +kernel
theorem dX12_comes_108 : decode cX12_comes 108 = .ok (.iconst 1, 1) := by decide +kernel
theorem dX12_comes_109 : decode cX12_comes 109 = .ok (.goto 4, 3) := by decide +kernel
theorem dX12_comes_112 : decode cX12_comes 112 = .ok (.iconst 0, 1) := by decide +kernel
theorem dX12_comes_113 : decode cX12_comes 113 = .ok (.istore 8, 2) := by decide +kernel
theorem dX12_comes_115 : decode cX12_comes 115 = .ok (.iload 8, 2) := by decide +kernel
theorem dX12_comes_117 : decode cX12_comes 117 = .ok (.ifCond .eq 7, 3) := by decide +kernel
theorem dX12_comes_120 : decode cX12_comes 120 = .ok (.iconst (-1), 1) := by decide +kernel
theorem dX12_comes_121 : decode cX12_comes 121 = .ok (.goto 15, 3) := by decide +kernel
theorem dX12_comes_124 : decode cX12_comes 124 = .ok (.aload_n 0, 1) := by decide +kernel
theorem dX12_comes_125 : decode cX12_comes 125 = .ok (.iload_n 2, 1) := by decide +kernel
theorem dX12_comes_126 : decode cX12_comes 126 = .ok (.iload_n 3, 1) := by decide +kernel
theorem dX12_comes_127 : decode cX12_comes 127 = .ok (.iload 4, 2) := by decide +kernel
theorem dX12_comes_129 : decode cX12_comes 129 = .ok (.iload 5, 2) := by decide +kernel
theorem dX12_comes_131 : decode cX12_comes 131 = .ok (.iload 6, 2) := by decide +kernel
theorem dX12_comes_133 : decode cX12_comes 133 = .ok (.invokevirtual 366, 3) := by decide +kernel
theorem dX12_comes_136 : decode cX12_comes 136 = .ok (.istore 9, 2) := by decide +kernel
theorem dX12_comes_138 : decode cX12_comes 138 = .ok (.iload 8, 2) := by decide +kernel
theorem dX12_comes_140 : decode cX12_comes 140 = .ok (.ifCond .eq 7, 3) := by decide +kernel
theorem dX12_comes_143 : decode cX12_comes 143 = .ok (.iconst 0, 1) := by decide +kernel
theorem dX12_comes_144 : decode cX12_comes 144 = .ok (.goto 7, 3) := by decide +kernel
theorem dX12_comes_147 : decode cX12_comes 147 = .ok (.aload_n 0, 1) := by decide +kernel
theorem dX12_comes_148 : decode cX12_comes 148 = .ok (.getfield 354, 3) := by decide +kernel
theorem dX12_comes_151 : decode cX12_comes 151 = .ok (.istore 10, 2) := by decide +kernel
theorem dX12_comes_153 : decode cX12_comes 153 = .ok (.iload 9, 2) := by decide +kernel
theorem dX12_comes_155 : decode cX12_comes 155 = .ok (.ifCond .lt 25, 3) := by decide +kernel
theorem dX12_comes_158 : decode cX12_comes 158 = .ok (.iload_n 2, 1) := by decide +kernel
theorem dX12_comes_159 : decode cX12_comes 159 = .ok (.bipush 6, 2) := by decide +kernel
theorem dX12_comes_161 : decode cX12_comes 161 = .ok (.if_icmp .ne 19, 3) := by decide +kernel
theorem dX12_comes_164 : decode cX12_comes 164 = .ok (.aload_n 0, 1) := by decide +kernel
theorem dX12_comes_165 : decode cX12_comes 165 = .ok (.iload 9, 2) := by decide +kernel
theorem dX12_comes_167 : decode cX12_comes 167 = .ok (.iload 10, 2) := by decide +kernel
theorem dX12_comes_169 : decode cX12_comes 169 = .ok (.iload 7, 2) := by decide +kernel
theorem dX12_comes_171 : decode cX12_comes 171 = .ok (.invokestatic 370, 3) := by decide +kernel
theorem dX12_comes_174 : decode cX12_comes 174 = .ok (.invokevirtual 373, 3) := by decide +kernel
theorem dX12_comes_177 : decode cX12_comes 177 = .ok (.goto 4, 3) := by decide +kernel
theorem dX12_comes_180 : decode cX12_comes 180 = .ok (.iconst 0, 1) := by decide +kernel
theorem dX12_comes_181 : decode cX12_comes 181 = .ok (.istore 11, 2) := by decide +kernel
theorem dX12_comes_183 : decode cX12_comes 183 = .ok (.iload 8, 2) := by decide +kernel
theorem dX12_comes_185 : decode cX12_comes 185 = .ok (.ifCond .eq 9, 3) := by decide +kernel
theorem dX12_comes_188 : decode cX12_comes 188 = .ok (.iconst 2, 1) := by decide +kernel
theorem dX12_comes_189 : decode cX12_comes 189 = .ok (.istore 12, 2) := by decide +kernel
theorem dX12_comes_191 : decode cX12_comes 191 = .ok (.goto 103, 3) := by decide +kernel
theorem dX12_comes_194 : decode cX12_comes 194 = .ok (.iload 9, 2) := by decide +kernel
theorem dX12_comes_196 : decode cX12_comes 196 = .ok (.ifCond .ge 44, 3) := by decide +kernel
theorem dX12_comes_199 : decode cX12_comes 199 = .ok (.iload_n 2, 1) := by decide +kernel
theorem dX12_comes_200 : decode cX12_comes 200 = .ok (.bipush 6, 2) := by decide +kernel
theorem dX12_comes_202 : decode cX12_comes 202 = .ok (.if_icmp .ne 12, 3) := by decide +kernel
theorem dX12_comes_205 : decode cX12_comes 205 = .ok (.iload 7, 2) := by decide +kernel
theorem dX12_comes_207 : decode cX12_comes 207 = .ok (.bipush 23, 2) := by decide +kernel
theorem dX12_comes_209 : decode cX12_comes 209 = .ok (.iand, 1) := by decide +kernel
theorem dX12_comes_210 : decode cX12_comes 210 = .ok (.iconst 2, 1) := by decide +kernel
theorem dX12_comes_211 : decode cX12_comes 211 = .ok (.if_icmp .ne 19, 3) := by decide +kernel
theorem dX12_comes_214 : decode cX12_comes 214 = .ok (.iload_n 2, 1) := by decide +kernel
theorem dX12_comes_215 : decode cX12_comes 215 = .ok (.iconst 1, 1) := by decide +kernel
theorem dX12_comes_216 : decode cX12_comes 216 = .ok (.if_icmp .ne 18, 3) := by decide +kernel
theorem dX12_comes_219 : decode cX12_comes 219 = .ok (.iload 5, 2) := by decide +kernel
theorem dX12_comes_221 : decode cX12_comes 221 = .ok (.sipush 256, 3) := by decide +kernel
theorem dX12_comes_224 : decode cX12_comes 224 = .ok (.idiv, 1) := by decide +kernel
theorem dX12_comes_225 : decode cX12_comes 225 = .ok (.bipush 8, 2) := by decide +kernel
theorem dX12_comes_227 : decode cX12_comes 227 = .ok (.if_icmp .eq 7, 3) := by decide +kernel
theorem dX12_comes_230 : decode cX12_comes 230 = .ok (.iconst 3, 1) := by decide +kernel
theorem dX12_comes_231 : decode cX12_comes 231 = .ok (.goto 4, 3) := by decide +kernel
theorem dX12_comes_234 : decode cX12_comes 234 = .ok (.iconst 0, 1) := by decide +kernel
theorem dX12_comes_235 : decode cX12_comes 235 = .ok (.istore 12, 2) := by decide +kernel
theorem dX12_comes_237 : decode cX12_comes 237 = .ok (.goto 57, 3) := by decide +kernel
theorem dX12_comes_240 : decode cX12_comes 240 = .ok (.iload_n 2, 1) := by decide +kernel
theorem dX12_comes_241 : decode cX12_comes 241 = .ok (.bipush 6, 2) := by decide +kernel
theorem dX12_comes_243 : decode cX12_comes 243 = .ok (.if_icmp .ne 14, 3) := by decide +kernel
theorem dX12_comes_246 : decode cX12_comes 246 = .ok (.iload 11, 2) := by decide +kernel
theorem dX12_comes_248 : decode cX12_comes 248 = .ok (.ifCond .ne 9, 3) := by decide +kernel
theorem dX12_comes_251 : decode cX12_comes 251 = .ok (.iconst 3, 1) := by decide +kernel
theorem dX12_comes_252 : decode cX12_comes 252 = .ok (.istore 12, 2) := by decide +kernel
theorem dX12_comes_254 : decode cX12_comes 254 = .ok (.goto 40, 3) := by decide +kernel
theorem dX12_comes_257 : decode cX12_comes 257 = .ok (.iload 11, 2) := by decide +kernel
theorem dX12_comes_259 : decode cX12_comes 259 = .ok (.bipush 8, 2) := by decide +kernel
theorem dX12_comes_261 : decode cX12_comes 261 = .ok (.if_icmp .eq 30, 3) := by decide +kernel
theorem dX12_comes_264 : decode cX12_comes 264 = .ok (.aload_n 0, 1) := by decide +kernel
theorem dX12_comes_265 : decode cX12_comes 265 = .ok (.getfield 87, 3) := by decide +kernel
theorem dX12_comes_268 : decode cX12_comes 268 = .ok (.bipush 9, 2) := by decide +kernel
theorem dX12_comes_270 : decode cX12_comes 270 = .ok (.iload 9, 2) := by decide +kernel
theorem dX12_comes_272 : decode cX12_comes 272 = .ok (.imul, 1) := by decide +kernel
theorem dX12_comes_273 : decode cX12_comes 273 = .ok (.bipush 6, 2) := by decide +kernel
theorem dX12_comes_275 : decode cX12_comes 275 = .ok (.iadd, 1) := by decide +kernel
theorem dX12_comes_276 : decode cX12_comes 276 = .ok (.iaload, 1) := by decide +kernel
theorem dX12_comes_277 : decode cX12_comes 277 = .ok (.iconst 1, 1) := by decide +kernel
theorem dX12_comes_278 : decode cX12_comes 278 = .ok (.if_icmp .eq 9, 3) := by decide +kernel
theorem dX12_comes_281 : decode cX12_comes 281 = .ok (.iload 10, 2) := by decide +kernel
theorem dX12_comes_283 : decode cX12_comes 283 = .ok (.iconst 2, 1) := by decide +kernel
theorem dX12_comes_284 : decode cX12_comes 284 = .ok (.if_icmp .ne 7, 3) := by decide +kernel
theorem dX12_comes_287 : decode cX12_comes 287 = .ok (.iconst 1, 1) := by decide +kernel
theorem dX12_comes_288 : decode cX12_comes 288 = .ok (.goto 4, 3) := by decide +kernel
theorem dX12_comes_291 : decode cX12_comes 291 = .ok (.iconst 0, 1) := by decide +kernel
theorem dX12_comes_292 : decode cX12_comes 292 = .ok (.istore 12, 2) := by decide +kernel
theorem dX12_comes_294 : decode cX12_comes 294 = .ok (.aload_n 0, 1) := by decide +kernel
theorem dX12_comes_295 : decode cX12_comes 295 = .ok (.iload_n 1, 1) := by decide +kernel
theorem dX12_comes_296 : decode cX12_comes 296 = .ok (.iload_n 2, 1) := by decide +kernel
theorem dX12_comes_297 : decode cX12_comes 297 = .ok (.iload_n 3, 1) := by decide +kernel
theorem dX12_comes_298 : decode cX12_comes 298 = .ok (.iload 4, 2) := by decide +kernel
theorem dX12_comes_300 : decode cX12_comes 300 = .ok (.iload 5, 2) := by decide +kernel
theorem dX12_comes_302 : decode cX12_comes 302 = .ok (.iload 6, 2) := by decide +kernel
theorem dX12_comes_304 : decode cX12_comes 304 = .ok (.invokevirtual 254, 3) := by decide +kernel
theorem dX12_comes_307 : decode cX12_comes 307 = .ok (.aload_n 0, 1) := by decide +kernel
theorem dX12_comes_308 : decode cX12_comes 308 = .ok (.iconst 0, 1) := by decide +kernel
theorem dX12_comes_309 : decode cX12_comes 309 = .ok (.iload 12, 2) := by decide +kernel
theorem dX12_comes_311 : decode cX12_comes 311 = .ok (.invokevirtual 258, 3) := by decide +kernel
theorem dX12_comes_314 : decode cX12_comes 314 = .ok (.istore 13, 2) := by decide +kernel
theorem dX12_comes_316 : decode cX12_comes 316 = .ok (.aload_n 0, 1) := by decide +kernel
theorem dX12_comes_317 : decode cX12_comes 317 = .ok (.getfield 53, 3) := by decide +kernel
theorem dX12_comes_320 : decode cX12_comes 320 = .ok (.iload 13, 2) := by decide +kernel
theorem dX12_comes_322 : decode cX12_comes 322 = .ok (.ifCond .ge 8, 3) := by decide +kernel
theorem dX12_comes_325 : decode cX12_comes 325 = .ok (.bipush 16, 2) := by decide +kernel
theorem dX12_comes_327 : decode cX12_comes 327 = .ok (.goto 5, 3) := by decide +kernel
theorem dX12_comes_330 : decode cX12_comes 330 = .ok (.iload 13, 2) := by decide +kernel
theorem dX12_comes_332 : decode cX12_comes 332 = .ok (.dup2, 1) := by decide +kernel
theorem dX12_comes_333 : decode cX12_comes 333 = .ok (.iaload, 1) := by decide +kernel
theorem dX12_comes_334 : decode cX12_comes 334 = .ok (.iconst 1, 1) := by decide +kernel
theorem dX12_comes_335 : decode cX12_comes 335 = .ok (.iadd, 1) := by decide +kernel
theorem dX12_comes_336 : decode cX12_comes 336 = .ok (.iastore, 1) := by decide +kernel
theorem dX12_comes_337 : decode cX12_comes 337 = .ok (.iload 13, 2) := by decide +kernel
theorem dX12_comes_339 : decode cX12_comes 339 = .ok (.ifCond .ge 12, 3) := by decide +kernel
theorem dX12_comes_342 : decode cX12_comes 342 = .ok (.aload_n 0, 1) := by decide +kernel
theorem dX12_comes_343 : decode cX12_comes 343 = .ok (.getfield 43, 3) := by decide +kernel
theorem dX12_comes_346 : decode cX12_comes 346 = .ok (.iconst 0, 1) := by decide +kernel
theorem dX12_comes_347 : decode cX12_comes 347 = .ok (.iaload, 1) := by decide +kernel
theorem dX12_comes_348 : decode cX12_comes 348 = .ok (.goto 10, 3) := by decide +kernel
theorem dX12_comes_351 : decode cX12_comes 351 = .ok (.aload_n 0, 1) := by decide +kernel
theorem dX12_comes_352 : decode cX12_comes 352 = .ok (.getfield 29, 3) := by decide +kernel
theorem dX12_comes_355 : decode cX12_comes 355 = .ok (.iload 13, 2) := by decide +kernel
theorem dX12_comes_357 : decode cX12_comes 357 = .ok (.iaload, 1) := by decide +kernel
theorem dX12_comes_358 : decode cX12_comes 358 = .ok (.istore 14, 2) := by decide +kernel
theorem dX12_comes_360 : decode cX12_comes 360 = .ok (.iload 14, 2) := by decide +kernel
theorem dX12_comes_362 : decode cX12_comes 362 = .ok (.iconst 1, 1) := by decide +kernel
theorem dX12_comes_363 : decode cX12_comes 363 = .ok (.if_icmp .ne 15, 3) := by decide +kernel
theorem dX12_comes_366 : decode cX12_comes 366 = .ok (.iload 12, 2) := by decide +kernel
theorem dX12_comes_368 : decode cX12_comes 368 = .ok (.iconst 3, 1) := by decide +kernel
theorem dX12_comes_369 : decode cX12_comes 369 = .ok (.if_icmp .eq 9, 3) := by decide +kernel
theorem dX12_comes_372 : decode cX12_comes 372 = .ok (.iload 12, 2) := by decide +kernel
theorem dX12_comes_374 : decode cX12_comes 374 = .ok (.iconst 2, 1) := by decide +kernel
theorem dX12_comes_375 : decode cX12_comes 375 = .ok (.if_icmp .ne 11, 3) := by decide +kernel
theorem dX12_comes_378 : decode cX12_comes 378 = .ok (.iload 14, 2) := by decide +kernel
theorem dX12_comes_380 : decode cX12_comes 380 = .ok (.iconst 4, 1) := by decide +kernel
theorem dX12_comes_381 : decode cX12_comes 381 = .ok (.iload 12, 2) := by decide +kernel
theorem dX12_comes_383 : decode cX12_comes 383 = .ok (.imul, 1) := by decide +kernel
theorem dX12_comes_384 : decode cX12_comes 384 = .ok (.iadd, 1) := by decide +kernel
theorem dX12_comes_385 : decode cX12_comes 385 = .ok (.ireturn, 1) := by decide +kernel
theorem dX12_comes_386 : decode cX12_comes 386 = .ok (.iload 9, 2) := by decide +kernel
theorem dX12_comes_388 : decode cX12_comes 388 = .ok (.ifCond .lt 21, 3) := by decide +kernel
theorem dX12_comes_391 : decode cX12_comes 391 = .ok (.aload_n 0, 1) := by decide +kernel
theorem dX12_comes_392 : decode cX12_comes 392 = .ok (.iload 9, 2) := by decide +kernel
theorem dX12_comes_394 : decode cX12_comes 394 = .ok (.iload 10, 2) := by decide +kernel
theorem dX12_comes_396 : decode cX12_comes 396 = .ok (.iload 11, 2) := by decide +kernel
theorem dX12_comes_398 : decode cX12_comes 398 = .ok (.iload 7, 2) := by decide +kernel
theorem dX12_comes_400 : decode cX12_comes 400 = .ok (.invokestatic 370, 3) := by decide +kernel
theorem dX12_comes_403 : decode cX12_comes 403 = .ok (.invokevirtual 376, 3) := by decide +kernel
theorem dX12_comes_406 : decode cX12_comes 406 = .ok (.goto 36, 3) := by decide +kernel
theorem dX12_comes_409 : decode cX12_comes 409 = .ok (.aload_n 0, 1) := by decide +kernel
theorem dX12_comes_410 : decode cX12_comes 410 = .ok (.iload_n 2, 1) := by decide +kernel
theorem dX12_comes_411 : decode cX12_comes 411 = .ok (.iload_n 3, 1) := by decide +kernel
theorem dX12_comes_412 : decode cX12_comes 412 = .ok (.iload 4, 2) := by decide +kernel
theorem dX12_comes_414 : decode cX12_comes 414 = .ok (.iload 5, 2) := by decide +kernel
theorem dX12_comes_416 : decode cX12_comes 416 = .ok (.iload 6, 2) := by decide +kernel
theorem dX12_comes_418 : decode cX12_comes 418 = .ok (.invokevirtual 380, 3) := by decide +kernel
theorem dX12_comes_421 : decode cX12_comes 421 = .ok (.ifCond .ne 21, 3) := by decide +kernel
theorem dX12_comes_424 : decode cX12_comes 424 = .ok (.aload_n 0, 1) := by decide +kernel
theorem dX12_comes_425 : decode cX12_comes 425 = .ok (.dup, 1) := by decide +kernel
theorem dX12_comes_426 : decode cX12_comes 426 = .ok (.getfield 384, 3) := by decide +kernel
theorem dX12_comes_429 : decode cX12_comes 429 = .ok (.iconst 1, 1) := by decide +kernel
theorem dX12_comes_430 : decode cX12_comes 430 = .ok (.iadd, 1) := by decide +kernel
theorem dX12_comes_431 : decode cX12_comes 431 = .ok (.putfield 384, 3) := by decide +kernel
theorem dX12_comes_434 : decode cX12_comes 434 = .ok (.iconst 4, 1) := by decide +kernel
theorem dX12_comes_435 : decode cX12_comes 435 = .ok (.iload 12, 2) := by decide +kernel
theorem dX12_comes_437 : decode cX12_comes 437 = .ok (.imul, 1) := by decide +kernel
theorem dX12_comes_438 : decode cX12_comes 438 = .ok (.bipush 16, 2) := by decide +kernel
theorem dX12_comes_440 : decode cX12_comes 440 = .ok (.iadd, 1) := by decide +kernel
theorem dX12_comes_441 : decode cX12_comes 441 = .ok (.ireturn, 1) := by decide +kernel
theorem dX12_comes_442 : decode cX12_comes 442 = .ok (.iload 14, 2) := by decide +kernel
theorem dX12_comes_444 : decode cX12_comes 444 = .ok (.iconst 4, 1) := by decide +kernel
theorem dX12_comes_445 : decode cX12_comes 445 = .ok (.iload 12, 2) := by decide +kernel
theorem dX12_comes_447 : decode cX12_comes 447 = .ok (.imul, 1) := by decide +kernel
theorem dX12_comes_448 : decode cX12_comes 448 = .ok (.iadd, 1) := by decide +kernel
theorem dX12_comes_449 : decode cX12_comes 449 = .ok (.ireturn, 1) := by decide +kernel
theorem e_X12_comes_358 {X : gk_X} {F : Nat} {l0 : Nat} {l2 : Int32} {l3 : Int32} {l4 : Int32} {l5 : Int32} {l6 : Int32} {l7 : Int32} {l9 : Int32} {l10 : Int32} {l11 : Int32} {l12 : Int32} {s0 : Int32} {S : gk_S} {r : (Int32 × gk_S)} (h0 : f_X12_comes_358 F l0 l2 l3 l4 l5 l6 l7 l9 l10 l11 l12 s0 S = some r) : EvW X m_X12_comes 3 0 0 358 [some (.ref l0), none, some (.int l2), some (.int l3), some (.int l4), some (.int l5), some (.int l6), some (.int l7), none, some (.int l9), some (.int l10), some (.int l11), some (.int l12), none, none] [.int s0] S (qRI r) := by
  unfold f_X12_comes_358 at h0
  refine ev_istore (pc := 358) (L' := [some (.ref l0), none, some (.int l2), some (.int l3), some (.int l4), some (.int l5), some (.int l6), some (.int l7), none, some (.int l9), some (.int l10), some (.int l11), some (.int l12), none, some (.int s0)]) (i := 14) (by decide) rfl rfl dX12_comes_358 ?_
  refine ev_iload (pc := 360) (i := 14) rfl dX12_comes_360 ?_
  refine ev_iconst (pc := 362) (v := 1) (by decide) dX12_comes_362 ?_
  refine ev_ic_ne (pc := 363) (tgt := 378) (by decide) dX12_comes_363 (fun c154 => ?_) (fun c154 => ?_)
  · replace h0 := qi_f h0 c154
    refine ev_iload (pc := 378) (i := 14) rfl dX12_comes_378 ?_
    refine ev_iconst (pc := 380) (v := 4) (by decide) dX12_comes_380 ?_
    refine ev_iload (pc := 381) (i := 12) rfl dX12_comes_381 ?_
    refine ev_imul (pc := 383)  dX12_comes_383 ?_
    refine ev_iadd (pc := 384)  dX12_comes_384 ?_
    exact ev_ireturn (pc := 385) rfl (nar_int _) (qRI_eq h0) dX12_comes_385
  · replace h0 := qi_t h0 c154
    refine ev_iload (pc := 366) (i := 12) rfl dX12_comes_366 ?_
    refine ev_iconst (pc := 368) (v := 3) (by decide) dX12_comes_368 ?_
    refine ev_ic_eq (pc := 369) (tgt := 378) (by decide) dX12_comes_369 (fun c156 => ?_) (fun c156 => ?_)
    · replace h0 := qi_t h0 c156
      refine ev_iload (pc := 378) (i := 14) rfl dX12_comes_378 ?_
      refine ev_iconst (pc := 380) (v := 4) (by decide) dX12_comes_380 ?_
      refine ev_iload (pc := 381) (i := 12) rfl dX12_comes_381 ?_
      refine ev_imul (pc := 383)  dX12_comes_383 ?_
      refine ev_iadd (pc := 384)  dX12_comes_384 ?_
      exact ev_ireturn (pc := 385) rfl (nar_int _) (qRI_eq h0) dX12_comes_385
    · replace h0 := qi_f h0 c156
      refine ev_iload (pc := 372) (i := 12) rfl dX12_comes_372 ?_
      refine ev_iconst (pc := 374) (v := 2) (by decide) dX12_comes_374 ?_
      refine ev_ic_ne (pc := 375) (tgt := 386) (by decide) dX12_comes_375 (fun c158 => ?_) (fun c158 => ?_)
      · replace h0 := qi_f h0 c158
        refine ev_iload (pc := 386) (i := 9) rfl dX12_comes_386 ?_
        refine ev_if_lt (pc := 388) (tgt := 409) (by decide) dX12_comes_388 (fun c160 => ?_) (fun c160 => ?_)
        · replace h0 := qi_t h0 c160
          refine ev_aload_n (pc := 409) (i := 0) rfl rfl rfl dX12_comes_409 ?_
          refine ev_iload_n (pc := 410) (i := 2) rfl rfl dX12_comes_410 ?_
          refine ev_iload_n (pc := 411) (i := 3) rfl rfl dX12_comes_411 ?_
          refine ev_iload (pc := 412) (i := 4) rfl dX12_comes_412 ?_
          refine ev_iload (pc := 414) (i := 5) rfl dX12_comes_414 ?_
          refine ev_iload (pc := 416) (i := 6) rfl dX12_comes_416 ?_
          obtain ⟨g162, h163⟩ := qk_el h0; clear h0
          obtain ⟨x164, S165, e166, h167⟩ := qc_el h163; clear h163
          refine xv_callV (pc := 418) (st := []) (as := [.int l2, .int l3, .int l4, .int l5, .int l6]) (v := (some (.int x164))) (S' := S165) ok_X12_begins (e_X12_begins e166) (isb_el g162) (by decide) rfl (Nat.le_of_ble_eq_true rfl) rfl gw_1574 dX12_comes_418 ?_
          refine ev_if_ne (pc := 421) (tgt := 442) (by decide) dX12_comes_421 (fun c168 => ?_) (fun c168 => ?_)
          · replace h167 := qi_f h167 c168
            refine ev_iload (pc := 442) (i := 14) rfl dX12_comes_442 ?_
            refine ev_iconst (pc := 444) (v := 4) (by decide) dX12_comes_444 ?_
            refine ev_iload (pc := 445) (i := 12) rfl dX12_comes_445 ?_
            refine ev_imul (pc := 447)  dX12_comes_447 ?_
            refine ev_iadd (pc := 448)  dX12_comes_448 ?_
            exact ev_ireturn (pc := 449) rfl (nar_int _) (qRI_eq h167) dX12_comes_449
          · replace h167 := qi_t h167 c168
            refine ev_aload_n (pc := 424) (i := 0) rfl rfl rfl dX12_comes_424 ?_
            refine ev_dup (pc := 425) (.inr rfl) dX12_comes_425 ?_
            obtain ⟨g170, h171⟩ := qk_el h167; clear h167
            obtain ⟨x172, e173, h174⟩ := qv_el h171; clear h171
            refine xv_getIv (pc := 426) fn_937 (isb_el g170) e173 gw_1177 dX12_comes_426 ?_
            refine ev_iconst (pc := 429) (v := 1) (by decide) dX12_comes_429 ?_
            refine ev_iadd (pc := 430)  dX12_comes_430 ?_
            obtain ⟨S175, e176, h177⟩ := qv_el h174; clear h174
            refine yv_putI (pc := 431) fn_937 ⟨rfl, rfl⟩ (isb_el g170) e176 gw_1177 dX12_comes_431 ?_
            refine ev_iconst (pc := 434) (v := 4) (by decide) dX12_comes_434 ?_
            refine ev_iload (pc := 435) (i := 12) rfl dX12_comes_435 ?_
            refine ev_imul (pc := 437)  dX12_comes_437 ?_
            refine ev_bipush (pc := 438) (v := 16) (by decide) dX12_comes_438 ?_
            refine ev_iadd (pc := 440)  dX12_comes_440 ?_
            exact ev_ireturn (pc := 441) rfl (nar_int _) (qRI_eq h177) dX12_comes_441
        · replace h0 := qi_f h0 c160
          refine ev_aload_n (pc := 391) (i := 0) rfl rfl rfl dX12_comes_391 ?_
          refine ev_iload (pc := 392) (i := 9) rfl dX12_comes_392 ?_
          refine ev_iload (pc := 394) (i := 10) rfl dX12_comes_394 ?_
          refine ev_iload (pc := 396) (i := 11) rfl dX12_comes_396 ?_
          refine ev_iload (pc := 398) (i := 7) rfl dX12_comes_398 ?_
          obtain ⟨x178, S179, e180, h181⟩ := qc_el h0; clear h0
          refine xv_callS (pc := 400) (st := [.int l11, .int l10, .int l9, .ref l0]) (as := [.int l7]) (v := (some (.int x178))) (S' := S179) ok_X12_letter (e_X12_letter e180) (by decide) rfl (Nat.le_of_ble_eq_true rfl) rfl gw_1560 dX12_comes_400 ?_
          obtain ⟨g182, h183⟩ := qk_el h181; clear h181
          obtain ⟨x184, S185, e186, h187⟩ := qc_el h183; clear h183
          refine xv_callV (pc := 403) (st := []) (as := [.int l9, .int l10, .int l11, .int x178]) (v := none) (S' := S185) ok_X12_steps (e_X12_steps e186) (isb_el g182) (by decide) rfl (Nat.le_of_ble_eq_true rfl) rfl gw_1567 dX12_comes_403 ?_
          refine ev_goto (pc := 406) (tgt := 442) (by decide) dX12_comes_406 ?_
          refine ev_iload (pc := 442) (i := 14) rfl dX12_comes_442 ?_
          refine ev_iconst (pc := 444) (v := 4) (by decide) dX12_comes_444 ?_
          refine ev_iload (pc := 445) (i := 12) rfl dX12_comes_445 ?_
          refine ev_imul (pc := 447)  dX12_comes_447 ?_
          refine ev_iadd (pc := 448)  dX12_comes_448 ?_
          exact ev_ireturn (pc := 449) rfl (nar_int _) (qRI_eq h187) dX12_comes_449
      · replace h0 := qi_t h0 c158
        refine ev_iload (pc := 378) (i := 14) rfl dX12_comes_378 ?_
        refine ev_iconst (pc := 380) (v := 4) (by decide) dX12_comes_380 ?_
        refine ev_iload (pc := 381) (i := 12) rfl dX12_comes_381 ?_
        refine ev_imul (pc := 383)  dX12_comes_383 ?_
        refine ev_iadd (pc := 384)  dX12_comes_384 ?_
        exact ev_ireturn (pc := 385) rfl (nar_int _) (qRI_eq h0) dX12_comes_385
theorem e_X12_comes_332 {X : gk_X} {F : Nat} {l0 : Nat} {l2 : Int32} {l3 : Int32} {l4 : Int32} {l5 : Int32} {l6 : Int32} {l7 : Int32} {l9 : Int32} {l10 : Int32} {l11 : Int32} {l12 : Int32} {l13 : Int32} {s0 : Int32} {s1 : Nat} {S : gk_S} {r : (Int32 × gk_S)} (h0 : f_X12_comes_332 F l0 l2 l3 l4 l5 l6 l7 l9 l10 l11 l12 l13 s0 s1 S = some r) : EvW X m_X12_comes 3 0 0 332 [some (.ref l0), none, some (.int l2), some (.int l3), some (.int l4), some (.int l5), some (.int l6), some (.int l7), none, some (.int l9), some (.int l10), some (.int l11), some (.int l12), some (.int l13), none] [.int s0, .ref s1] S (qRI r) := by
  unfold f_X12_comes_332 at h0
  refine ev_dup2 (pc := 332) rfl dX12_comes_332 ?_
  obtain ⟨g128, h129⟩ := qk_el h0; clear h0
  obtain ⟨g130, h131⟩ := qk_el h129; clear h129
  obtain ⟨x132, e133, h134⟩ := qv_el h131; clear h131
  refine yv_iald (pc := 333) (isb_el g128) (inb_el g130) e133 dX12_comes_333 ?_
  refine ev_iconst (pc := 334) (v := 1) (by decide) dX12_comes_334 ?_
  refine ev_iadd (pc := 335)  dX12_comes_335 ?_
  obtain ⟨g135, h136⟩ := qk_el h134; clear h134
  obtain ⟨S137, e138, h139⟩ := qv_el h136; clear h136
  refine yv_iast (pc := 336) (isb_el g128) (inb_el g135) e138 dX12_comes_336 ?_
  refine ev_iload (pc := 337) (i := 13) rfl dX12_comes_337 ?_
  refine ev_if_ge (pc := 339) (tgt := 351) (by decide) dX12_comes_339 (fun c140 => ?_) (fun c140 => ?_)
  · replace h139 := qi_t h139 c140
    refine ev_aload_n (pc := 351) (i := 0) rfl rfl rfl dX12_comes_351 ?_
    obtain ⟨g142, h143⟩ := qk_el h139; clear h139
    obtain ⟨b144, e145, h146⟩ := qP_el h143; clear h143
    refine xv_getP (pc := 352) fn_907 (isb_el g142) e145 gw_1147 dX12_comes_352 ?_
    refine ev_iload (pc := 355) (i := 13) rfl dX12_comes_355 ?_
    obtain ⟨g147, h148⟩ := qk_el h146; clear h146
    obtain ⟨g149, h150⟩ := qk_el h148; clear h148
    obtain ⟨x151, e152, h153⟩ := qv_el h150; clear h150
    refine yv_iald (pc := 357) (isb_el g147) (inb_el g149) e152 dX12_comes_357 ?_
    exact ev_weak (qL_s (qL_n (qL_s (qL_s (qL_s (qL_s (qL_s (qL_s (qL_n (qL_s (qL_s (qL_s (qL_s (qL_n (qL_n qL_nil))))))))))))))) (e_X12_comes_358 h153)
  · replace h139 := qi_f h139 c140
    refine ev_aload_n (pc := 342) (i := 0) rfl rfl rfl dX12_comes_342 ?_
    obtain ⟨g188, h189⟩ := qk_el h139; clear h139
    obtain ⟨b190, e191, h192⟩ := qP_el h189; clear h189
    refine xv_getP (pc := 343) fn_905 (isb_el g188) e191 gw_1145 dX12_comes_343 ?_
    refine ev_iconst (pc := 346) (v := 0) (by decide) dX12_comes_346 ?_
    obtain ⟨g193, h194⟩ := qk_el h192; clear h192
    obtain ⟨g195, h196⟩ := qk_el h194; clear h194
    obtain ⟨x197, e198, h199⟩ := qv_el h196; clear h196
    refine yv_iald (pc := 347) (isb_el g193) (inb_el g195) e198 dX12_comes_347 ?_
    refine ev_goto (pc := 348) (tgt := 358) (by decide) dX12_comes_348 ?_
    exact ev_weak (qL_s (qL_n (qL_s (qL_s (qL_s (qL_s (qL_s (qL_s (qL_n (qL_s (qL_s (qL_s (qL_s (qL_n (qL_n qL_nil))))))))))))))) (e_X12_comes_358 h199)
theorem e_X12_comes_294 {X : gk_X} {F : Nat} {l0 : Nat} {l1 : Int32} {l2 : Int32} {l3 : Int32} {l4 : Int32} {l5 : Int32} {l6 : Int32} {l7 : Int32} {l9 : Int32} {l10 : Int32} {l11 : Int32} {l12 : Int32} {S : gk_S} {r : (Int32 × gk_S)} (h0 : f_X12_comes_294 F l0 l1 l2 l3 l4 l5 l6 l7 l9 l10 l11 l12 S = some r) : EvW X m_X12_comes 3 0 0 294 [some (.ref l0), some (.int l1), some (.int l2), some (.int l3), some (.int l4), some (.int l5), some (.int l6), some (.int l7), none, some (.int l9), some (.int l10), some (.int l11), some (.int l12), none, none] [] S (qRI r) := by
  unfold f_X12_comes_294 at h0
  refine ev_aload_n (pc := 294) (i := 0) rfl rfl rfl dX12_comes_294 ?_
  refine ev_iload_n (pc := 295) (i := 1) rfl rfl dX12_comes_295 ?_
  refine ev_iload_n (pc := 296) (i := 2) rfl rfl dX12_comes_296 ?_
  refine ev_iload_n (pc := 297) (i := 3) rfl rfl dX12_comes_297 ?_
  refine ev_iload (pc := 298) (i := 4) rfl dX12_comes_298 ?_
  refine ev_iload (pc := 300) (i := 5) rfl dX12_comes_300 ?_
  refine ev_iload (pc := 302) (i := 6) rfl dX12_comes_302 ?_
  obtain ⟨g109, h110⟩ := qk_el h0; clear h0
  obtain ⟨x111, S112, e113, h114⟩ := qc_el h110; clear h110
  refine xv_callV (pc := 304) (st := []) (as := [.int l1, .int l2, .int l3, .int l4, .int l5, .int l6]) (v := none) (S' := S112) ok_X12_point (e_X12_point e113) (isb_el g109) (by decide) rfl (Nat.le_of_ble_eq_true rfl) rfl gw_1436 dX12_comes_304 ?_
  refine ev_aload_n (pc := 307) (i := 0) rfl rfl rfl dX12_comes_307 ?_
  refine ev_iconst (pc := 308) (v := 0) (by decide) dX12_comes_308 ?_
  refine ev_iload (pc := 309) (i := 12) rfl dX12_comes_309 ?_
  obtain ⟨g115, h116⟩ := qk_el h114; clear h114
  obtain ⟨x117, S118, e119, h120⟩ := qc_el h116; clear h116
  refine xv_callV (pc := 311) (st := []) (as := [.int 0, .int l12]) (v := (some (.int x117))) (S' := S118) ok_X12_first (e_X12_first e119) (isb_el g115) (by decide) rfl (Nat.le_of_ble_eq_true rfl) rfl gw_1440 dX12_comes_311 ?_
  refine ev_istore (pc := 314) (L' := [some (.ref l0), some (.int l1), some (.int l2), some (.int l3), some (.int l4), some (.int l5), some (.int l6), some (.int l7), none, some (.int l9), some (.int l10), some (.int l11), some (.int l12), some (.int x117), none]) (i := 13) (by decide) rfl rfl dX12_comes_314 ?_
  refine ev_aload_n (pc := 316) (i := 0) rfl rfl rfl dX12_comes_316 ?_
  obtain ⟨g121, h122⟩ := qk_el h120; clear h120
  obtain ⟨b123, e124, h125⟩ := qP_el h122; clear h122
  refine xv_getP (pc := 317) fn_911 (isb_el g121) e124 gw_1151 dX12_comes_317 ?_
  refine ev_iload (pc := 320) (i := 13) rfl dX12_comes_320 ?_
  refine ev_if_ge (pc := 322) (tgt := 330) (by decide) dX12_comes_322 (fun c126 => ?_) (fun c126 => ?_)
  · replace h125 := qi_t h125 c126
    refine ev_iload (pc := 330) (i := 13) rfl dX12_comes_330 ?_
    exact ev_weak (qL_s (qL_n (qL_s (qL_s (qL_s (qL_s (qL_s (qL_s (qL_n (qL_s (qL_s (qL_s (qL_s (qL_s (qL_n qL_nil))))))))))))))) (e_X12_comes_332 h125)
  · replace h125 := qi_f h125 c126
    refine ev_bipush (pc := 325) (v := 16) (by decide) dX12_comes_325 ?_
    refine ev_goto (pc := 327) (tgt := 332) (by decide) dX12_comes_327 ?_
    exact ev_weak (qL_s (qL_n (qL_s (qL_s (qL_s (qL_s (qL_s (qL_s (qL_n (qL_s (qL_s (qL_s (qL_s (qL_s (qL_n qL_nil))))))))))))))) (e_X12_comes_332 h125)
theorem e_X12_comes_257 {X : gk_X} {F : Nat} {l0 : Nat} {l1 : Int32} {l2 : Int32} {l3 : Int32} {l4 : Int32} {l5 : Int32} {l6 : Int32} {l7 : Int32} {l9 : Int32} {l10 : Int32} {l11 : Int32} {S : gk_S} {r : (Int32 × gk_S)} (h0 : f_X12_comes_257 F l0 l1 l2 l3 l4 l5 l6 l7 l9 l10 l11 S = some r) : EvW X m_X12_comes 3 0 0 257 [some (.ref l0), some (.int l1), some (.int l2), some (.int l3), some (.int l4), some (.int l5), some (.int l6), some (.int l7), none, some (.int l9), some (.int l10), some (.int l11), none, none, none] [] S (qRI r) := by
  unfold f_X12_comes_257 at h0
  refine ev_iload (pc := 257) (i := 11) rfl dX12_comes_257 ?_
  refine ev_bipush (pc := 259) (v := 8) (by decide) dX12_comes_259 ?_
  refine ev_ic_eq (pc := 261) (tgt := 291) (by decide) dX12_comes_261 (fun c107 => ?_) (fun c107 => ?_)
  · replace h0 := qi_t h0 c107
    refine ev_iconst (pc := 291) (v := 0) (by decide) dX12_comes_291 ?_
    refine ev_istore (pc := 292) (L' := [some (.ref l0), some (.int l1), some (.int l2), some (.int l3), some (.int l4), some (.int l5), some (.int l6), some (.int l7), none, some (.int l9), some (.int l10), some (.int l11), some (.int 0), none, none]) (i := 12) (by decide) rfl rfl dX12_comes_292 ?_
    exact ev_weak (qL_s (qL_s (qL_s (qL_s (qL_s (qL_s (qL_s (qL_s (qL_n (qL_s (qL_s (qL_s (qL_s (qL_n (qL_n qL_nil))))))))))))))) (e_X12_comes_294 h0)
  · replace h0 := qi_f h0 c107
    refine ev_aload_n (pc := 264) (i := 0) rfl rfl rfl dX12_comes_264 ?_
    obtain ⟨g200, h201⟩ := qk_el h0; clear h0
    obtain ⟨b202, e203, h204⟩ := qP_el h201; clear h201
    refine xv_getP (pc := 265) fn_931 (isb_el g200) e203 gw_1171 dX12_comes_265 ?_
    refine ev_bipush (pc := 268) (v := 9) (by decide) dX12_comes_268 ?_
    refine ev_iload (pc := 270) (i := 9) rfl dX12_comes_270 ?_
    refine ev_imul (pc := 272)  dX12_comes_272 ?_
    refine ev_bipush (pc := 273) (v := 6) (by decide) dX12_comes_273 ?_
    refine ev_iadd (pc := 275)  dX12_comes_275 ?_
    obtain ⟨g205, h206⟩ := qk_el h204; clear h204
    obtain ⟨g207, h208⟩ := qk_el h206; clear h206
    obtain ⟨x209, e210, h211⟩ := qv_el h208; clear h208
    refine yv_iald (pc := 276) (isb_el g205) (inb_el g207) e210 dX12_comes_276 ?_
    refine ev_iconst (pc := 277) (v := 1) (by decide) dX12_comes_277 ?_
    refine ev_ic_eq (pc := 278) (tgt := 287) (by decide) dX12_comes_278 (fun c212 => ?_) (fun c212 => ?_)
    · replace h211 := qi_t h211 c212
      refine ev_iconst (pc := 287) (v := 1) (by decide) dX12_comes_287 ?_
      refine ev_goto (pc := 288) (tgt := 292) (by decide) dX12_comes_288 ?_
      refine ev_istore (pc := 292) (L' := [some (.ref l0), some (.int l1), some (.int l2), some (.int l3), some (.int l4), some (.int l5), some (.int l6), some (.int l7), none, some (.int l9), some (.int l10), some (.int l11), some (.int 1), none, none]) (i := 12) (by decide) rfl rfl dX12_comes_292 ?_
      exact ev_weak (qL_s (qL_s (qL_s (qL_s (qL_s (qL_s (qL_s (qL_s (qL_n (qL_s (qL_s (qL_s (qL_s (qL_n (qL_n qL_nil))))))))))))))) (e_X12_comes_294 h211)
    · replace h211 := qi_f h211 c212
      refine ev_iload (pc := 281) (i := 10) rfl dX12_comes_281 ?_
      refine ev_iconst (pc := 283) (v := 2) (by decide) dX12_comes_283 ?_
      refine ev_ic_ne (pc := 284) (tgt := 291) (by decide) dX12_comes_284 (fun c214 => ?_) (fun c214 => ?_)
      · replace h211 := qi_f h211 c214
        refine ev_iconst (pc := 291) (v := 0) (by decide) dX12_comes_291 ?_
        refine ev_istore (pc := 292) (L' := [some (.ref l0), some (.int l1), some (.int l2), some (.int l3), some (.int l4), some (.int l5), some (.int l6), some (.int l7), none, some (.int l9), some (.int l10), some (.int l11), some (.int 0), none, none]) (i := 12) (by decide) rfl rfl dX12_comes_292 ?_
        exact ev_weak (qL_s (qL_s (qL_s (qL_s (qL_s (qL_s (qL_s (qL_s (qL_n (qL_s (qL_s (qL_s (qL_s (qL_n (qL_n qL_nil))))))))))))))) (e_X12_comes_294 h211)
      · replace h211 := qi_t h211 c214
        refine ev_iconst (pc := 287) (v := 1) (by decide) dX12_comes_287 ?_
        refine ev_goto (pc := 288) (tgt := 292) (by decide) dX12_comes_288 ?_
        refine ev_istore (pc := 292) (L' := [some (.ref l0), some (.int l1), some (.int l2), some (.int l3), some (.int l4), some (.int l5), some (.int l6), some (.int l7), none, some (.int l9), some (.int l10), some (.int l11), some (.int 1), none, none]) (i := 12) (by decide) rfl rfl dX12_comes_292 ?_
        exact ev_weak (qL_s (qL_s (qL_s (qL_s (qL_s (qL_s (qL_s (qL_s (qL_n (qL_s (qL_s (qL_s (qL_s (qL_n (qL_n qL_nil))))))))))))))) (e_X12_comes_294 h211)
theorem e_X12_comes_214 {X : gk_X} {F : Nat} {l0 : Nat} {l1 : Int32} {l2 : Int32} {l3 : Int32} {l4 : Int32} {l5 : Int32} {l6 : Int32} {l7 : Int32} {l9 : Int32} {l10 : Int32} {l11 : Int32} {S : gk_S} {r : (Int32 × gk_S)} (h0 : f_X12_comes_214 F l0 l1 l2 l3 l4 l5 l6 l7 l9 l10 l11 S = some r) : EvW X m_X12_comes 3 0 0 214 [some (.ref l0), some (.int l1), some (.int l2), some (.int l3), some (.int l4), some (.int l5), some (.int l6), some (.int l7), none, some (.int l9), some (.int l10), some (.int l11), none, none, none] [] S (qRI r) := by
  unfold f_X12_comes_214 at h0
  refine ev_iload_n (pc := 214) (i := 2) rfl rfl dX12_comes_214 ?_
  refine ev_iconst (pc := 215) (v := 1) (by decide) dX12_comes_215 ?_
  refine ev_ic_ne (pc := 216) (tgt := 234) (by decide) dX12_comes_216 (fun c220 => ?_) (fun c220 => ?_)
  · replace h0 := qi_f h0 c220
    refine ev_iconst (pc := 234) (v := 0) (by decide) dX12_comes_234 ?_
    refine ev_istore (pc := 235) (L' := [some (.ref l0), some (.int l1), some (.int l2), some (.int l3), some (.int l4), some (.int l5), some (.int l6), some (.int l7), none, some (.int l9), some (.int l10), some (.int l11), some (.int 0), none, none]) (i := 12) (by decide) rfl rfl dX12_comes_235 ?_
    refine ev_goto (pc := 237) (tgt := 294) (by decide) dX12_comes_237 ?_
    exact ev_weak (qL_s (qL_s (qL_s (qL_s (qL_s (qL_s (qL_s (qL_s (qL_n (qL_s (qL_s (qL_s (qL_s (qL_n (qL_n qL_nil))))))))))))))) (e_X12_comes_294 h0)
  · replace h0 := qi_t h0 c220
    refine ev_iload (pc := 219) (i := 5) rfl dX12_comes_219 ?_
    refine ev_sipush (pc := 221) (v := 256) (by decide) dX12_comes_221 ?_
    refine ev_idiv (pc := 224) (by decide) dX12_comes_224 ?_
    refine ev_bipush (pc := 225) (v := 8) (by decide) dX12_comes_225 ?_
    refine ev_ic_eq (pc := 227) (tgt := 234) (by decide) dX12_comes_227 (fun c222 => ?_) (fun c222 => ?_)
    · replace h0 := qi_t h0 c222
      refine ev_iconst (pc := 234) (v := 0) (by decide) dX12_comes_234 ?_
      refine ev_istore (pc := 235) (L' := [some (.ref l0), some (.int l1), some (.int l2), some (.int l3), some (.int l4), some (.int l5), some (.int l6), some (.int l7), none, some (.int l9), some (.int l10), some (.int l11), some (.int 0), none, none]) (i := 12) (by decide) rfl rfl dX12_comes_235 ?_
      refine ev_goto (pc := 237) (tgt := 294) (by decide) dX12_comes_237 ?_
      exact ev_weak (qL_s (qL_s (qL_s (qL_s (qL_s (qL_s (qL_s (qL_s (qL_n (qL_s (qL_s (qL_s (qL_s (qL_n (qL_n qL_nil))))))))))))))) (e_X12_comes_294 h0)
    · replace h0 := qi_f h0 c222
      refine ev_iconst (pc := 230) (v := 3) (by decide) dX12_comes_230 ?_
      refine ev_goto (pc := 231) (tgt := 235) (by decide) dX12_comes_231 ?_
      refine ev_istore (pc := 235) (L' := [some (.ref l0), some (.int l1), some (.int l2), some (.int l3), some (.int l4), some (.int l5), some (.int l6), some (.int l7), none, some (.int l9), some (.int l10), some (.int l11), some (.int 3), none, none]) (i := 12) (by decide) rfl rfl dX12_comes_235 ?_
      refine ev_goto (pc := 237) (tgt := 294) (by decide) dX12_comes_237 ?_
      exact ev_weak (qL_s (qL_s (qL_s (qL_s (qL_s (qL_s (qL_s (qL_s (qL_n (qL_s (qL_s (qL_s (qL_s (qL_n (qL_n qL_nil))))))))))))))) (e_X12_comes_294 h0)
theorem e_X12_comes_181 {X : gk_X} {F : Nat} {l0 : Nat} {l1 : Int32} {l2 : Int32} {l3 : Int32} {l4 : Int32} {l5 : Int32} {l6 : Int32} {l7 : Int32} {l8 : Int32} {l9 : Int32} {l10 : Int32} {s0 : Int32} {S : gk_S} {r : (Int32 × gk_S)} (h0 : f_X12_comes_181 F l0 l1 l2 l3 l4 l5 l6 l7 l8 l9 l10 s0 S = some r) : EvW X m_X12_comes 3 0 0 181 [some (.ref l0), some (.int l1), some (.int l2), some (.int l3), some (.int l4), some (.int l5), some (.int l6), some (.int l7), some (.int l8), some (.int l9), some (.int l10), none, none, none, none] [.int s0] S (qRI r) := by
  unfold f_X12_comes_181 at h0
  refine ev_istore (pc := 181) (L' := [some (.ref l0), some (.int l1), some (.int l2), some (.int l3), some (.int l4), some (.int l5), some (.int l6), some (.int l7), some (.int l8), some (.int l9), some (.int l10), some (.int s0), none, none, none]) (i := 11) (by decide) rfl rfl dX12_comes_181 ?_
  refine ev_iload (pc := 183) (i := 8) rfl dX12_comes_183 ?_
  refine ev_if_eq (pc := 185) (tgt := 194) (by decide) dX12_comes_185 (fun c101 => ?_) (fun c101 => ?_)
  · replace h0 := qi_t h0 c101
    refine ev_iload (pc := 194) (i := 9) rfl dX12_comes_194 ?_
    refine ev_if_ge (pc := 196) (tgt := 240) (by decide) dX12_comes_196 (fun c103 => ?_) (fun c103 => ?_)
    · replace h0 := qi_t h0 c103
      refine ev_iload_n (pc := 240) (i := 2) rfl rfl dX12_comes_240 ?_
      refine ev_bipush (pc := 241) (v := 6) (by decide) dX12_comes_241 ?_
      refine ev_ic_ne (pc := 243) (tgt := 257) (by decide) dX12_comes_243 (fun c105 => ?_) (fun c105 => ?_)
      · replace h0 := qi_f h0 c105
        exact ev_weak (qL_s (qL_s (qL_s (qL_s (qL_s (qL_s (qL_s (qL_s (qL_n (qL_s (qL_s (qL_s (qL_n (qL_n (qL_n qL_nil))))))))))))))) (e_X12_comes_257 h0)
      · replace h0 := qi_t h0 c105
        refine ev_iload (pc := 246) (i := 11) rfl dX12_comes_246 ?_
        refine ev_if_ne (pc := 248) (tgt := 257) (by decide) dX12_comes_248 (fun c216 => ?_) (fun c216 => ?_)
        · replace h0 := qi_f h0 c216
          exact ev_weak (qL_s (qL_s (qL_s (qL_s (qL_s (qL_s (qL_s (qL_s (qL_n (qL_s (qL_s (qL_s (qL_n (qL_n (qL_n qL_nil))))))))))))))) (e_X12_comes_257 h0)
        · replace h0 := qi_t h0 c216
          refine ev_iconst (pc := 251) (v := 3) (by decide) dX12_comes_251 ?_
          refine ev_istore (pc := 252) (L' := [some (.ref l0), some (.int l1), some (.int l2), some (.int l3), some (.int l4), some (.int l5), some (.int l6), some (.int l7), some (.int l8), some (.int l9), some (.int l10), some (.int s0), some (.int 3), none, none]) (i := 12) (by decide) rfl rfl dX12_comes_252 ?_
          refine ev_goto (pc := 254) (tgt := 294) (by decide) dX12_comes_254 ?_
          exact ev_weak (qL_s (qL_s (qL_s (qL_s (qL_s (qL_s (qL_s (qL_s (qL_n (qL_s (qL_s (qL_s (qL_s (qL_n (qL_n qL_nil))))))))))))))) (e_X12_comes_294 h0)
    · replace h0 := qi_f h0 c103
      refine ev_iload_n (pc := 199) (i := 2) rfl rfl dX12_comes_199 ?_
      refine ev_bipush (pc := 200) (v := 6) (by decide) dX12_comes_200 ?_
      refine ev_ic_ne (pc := 202) (tgt := 214) (by decide) dX12_comes_202 (fun c218 => ?_) (fun c218 => ?_)
      · replace h0 := qi_f h0 c218
        exact ev_weak (qL_s (qL_s (qL_s (qL_s (qL_s (qL_s (qL_s (qL_s (qL_n (qL_s (qL_s (qL_s (qL_n (qL_n (qL_n qL_nil))))))))))))))) (e_X12_comes_214 h0)
      · replace h0 := qi_t h0 c218
        refine ev_iload (pc := 205) (i := 7) rfl dX12_comes_205 ?_
        refine ev_bipush (pc := 207) (v := 23) (by decide) dX12_comes_207 ?_
        refine ev_iand (pc := 209)  dX12_comes_209 ?_
        refine ev_iconst (pc := 210) (v := 2) (by decide) dX12_comes_210 ?_
        refine ev_ic_ne (pc := 211) (tgt := 230) (by decide) dX12_comes_211 (fun c224 => ?_) (fun c224 => ?_)
        · replace h0 := qi_f h0 c224
          refine ev_iconst (pc := 230) (v := 3) (by decide) dX12_comes_230 ?_
          refine ev_goto (pc := 231) (tgt := 235) (by decide) dX12_comes_231 ?_
          refine ev_istore (pc := 235) (L' := [some (.ref l0), some (.int l1), some (.int l2), some (.int l3), some (.int l4), some (.int l5), some (.int l6), some (.int l7), some (.int l8), some (.int l9), some (.int l10), some (.int s0), some (.int 3), none, none]) (i := 12) (by decide) rfl rfl dX12_comes_235 ?_
          refine ev_goto (pc := 237) (tgt := 294) (by decide) dX12_comes_237 ?_
          exact ev_weak (qL_s (qL_s (qL_s (qL_s (qL_s (qL_s (qL_s (qL_s (qL_n (qL_s (qL_s (qL_s (qL_s (qL_n (qL_n qL_nil))))))))))))))) (e_X12_comes_294 h0)
        · replace h0 := qi_t h0 c224
          exact ev_weak (qL_s (qL_s (qL_s (qL_s (qL_s (qL_s (qL_s (qL_s (qL_n (qL_s (qL_s (qL_s (qL_n (qL_n (qL_n qL_nil))))))))))))))) (e_X12_comes_214 h0)
  · replace h0 := qi_f h0 c101
    refine ev_iconst (pc := 188) (v := 2) (by decide) dX12_comes_188 ?_
    refine ev_istore (pc := 189) (L' := [some (.ref l0), some (.int l1), some (.int l2), some (.int l3), some (.int l4), some (.int l5), some (.int l6), some (.int l7), some (.int l8), some (.int l9), some (.int l10), some (.int s0), some (.int 2), none, none]) (i := 12) (by decide) rfl rfl dX12_comes_189 ?_
    refine ev_goto (pc := 191) (tgt := 294) (by decide) dX12_comes_191 ?_
    exact ev_weak (qL_s (qL_s (qL_s (qL_s (qL_s (qL_s (qL_s (qL_s (qL_n (qL_s (qL_s (qL_s (qL_s (qL_n (qL_n qL_nil))))))))))))))) (e_X12_comes_294 h0)
theorem e_X12_comes_151 {X : gk_X} {F : Nat} {l0 : Nat} {l1 : Int32} {l2 : Int32} {l3 : Int32} {l4 : Int32} {l5 : Int32} {l6 : Int32} {l7 : Int32} {l8 : Int32} {l9 : Int32} {s0 : Int32} {S : gk_S} {r : (Int32 × gk_S)} (h0 : f_X12_comes_151 F l0 l1 l2 l3 l4 l5 l6 l7 l8 l9 s0 S = some r) : EvW X m_X12_comes 3 0 0 151 [some (.ref l0), some (.int l1), some (.int l2), some (.int l3), some (.int l4), some (.int l5), some (.int l6), some (.int l7), some (.int l8), some (.int l9), none, none, none, none, none] [.int s0] S (qRI r) := by
  unfold f_X12_comes_151 at h0
  refine ev_istore (pc := 151) (L' := [some (.ref l0), some (.int l1), some (.int l2), some (.int l3), some (.int l4), some (.int l5), some (.int l6), some (.int l7), some (.int l8), some (.int l9), some (.int s0), none, none, none, none]) (i := 10) (by decide) rfl rfl dX12_comes_151 ?_
  refine ev_iload (pc := 153) (i := 9) rfl dX12_comes_153 ?_
  refine ev_if_lt (pc := 155) (tgt := 180) (by decide) dX12_comes_155 (fun c99 => ?_) (fun c99 => ?_)
  · replace h0 := qi_t h0 c99
    refine ev_iconst (pc := 180) (v := 0) (by decide) dX12_comes_180 ?_
    exact ev_weak (qL_s (qL_s (qL_s (qL_s (qL_s (qL_s (qL_s (qL_s (qL_s (qL_s (qL_s (qL_n (qL_n (qL_n (qL_n qL_nil))))))))))))))) (e_X12_comes_181 h0)
  · replace h0 := qi_f h0 c99
    refine ev_iload_n (pc := 158) (i := 2) rfl rfl dX12_comes_158 ?_
    refine ev_bipush (pc := 159) (v := 6) (by decide) dX12_comes_159 ?_
    refine ev_ic_ne (pc := 161) (tgt := 180) (by decide) dX12_comes_161 (fun c226 => ?_) (fun c226 => ?_)
    · replace h0 := qi_f h0 c226
      refine ev_iconst (pc := 180) (v := 0) (by decide) dX12_comes_180 ?_
      exact ev_weak (qL_s (qL_s (qL_s (qL_s (qL_s (qL_s (qL_s (qL_s (qL_s (qL_s (qL_s (qL_n (qL_n (qL_n (qL_n qL_nil))))))))))))))) (e_X12_comes_181 h0)
    · replace h0 := qi_t h0 c226
      refine ev_aload_n (pc := 164) (i := 0) rfl rfl rfl dX12_comes_164 ?_
      refine ev_iload (pc := 165) (i := 9) rfl dX12_comes_165 ?_
      refine ev_iload (pc := 167) (i := 10) rfl dX12_comes_167 ?_
      refine ev_iload (pc := 169) (i := 7) rfl dX12_comes_169 ?_
      obtain ⟨x228, S229, e230, h231⟩ := qc_el h0; clear h0
      refine xv_callS (pc := 171) (st := [.int s0, .int l9, .ref l0]) (as := [.int l7]) (v := (some (.int x228))) (S' := S229) ok_X12_letter (e_X12_letter e230) (by decide) rfl (Nat.le_of_ble_eq_true rfl) rfl gw_1560 dX12_comes_171 ?_
      obtain ⟨g232, h233⟩ := qk_el h231; clear h231
      obtain ⟨x234, S235, e236, h237⟩ := qc_el h233; clear h233
      refine xv_callV (pc := 174) (st := []) (as := [.int l9, .int s0, .int x228]) (v := (some (.int x234))) (S' := S235) ok_X12_phase (e_X12_phase e236) (isb_el g232) (by decide) rfl (Nat.le_of_ble_eq_true rfl) rfl gw_1563 dX12_comes_174 ?_
      refine ev_goto (pc := 177) (tgt := 181) (by decide) dX12_comes_177 ?_
      exact ev_weak (qL_s (qL_s (qL_s (qL_s (qL_s (qL_s (qL_s (qL_s (qL_s (qL_s (qL_s (qL_n (qL_n (qL_n (qL_n qL_nil))))))))))))))) (e_X12_comes_181 h237)
theorem e_X12_comes_136 {X : gk_X} {F : Nat} {l0 : Nat} {l1 : Int32} {l2 : Int32} {l3 : Int32} {l4 : Int32} {l5 : Int32} {l6 : Int32} {l7 : Int32} {l8 : Int32} {s0 : Int32} {S : gk_S} {r : (Int32 × gk_S)} (h0 : f_X12_comes_136 F l0 l1 l2 l3 l4 l5 l6 l7 l8 s0 S = some r) : EvW X m_X12_comes 3 0 0 136 [some (.ref l0), some (.int l1), some (.int l2), some (.int l3), some (.int l4), some (.int l5), some (.int l6), some (.int l7), some (.int l8), none, none, none, none, none, none] [.int s0] S (qRI r) := by
  unfold f_X12_comes_136 at h0
  refine ev_istore (pc := 136) (L' := [some (.ref l0), some (.int l1), some (.int l2), some (.int l3), some (.int l4), some (.int l5), some (.int l6), some (.int l7), some (.int l8), some (.int s0), none, none, none, none, none]) (i := 9) (by decide) rfl rfl dX12_comes_136 ?_
  refine ev_iload (pc := 138) (i := 8) rfl dX12_comes_138 ?_
  refine ev_if_eq (pc := 140) (tgt := 147) (by decide) dX12_comes_140 (fun c92 => ?_) (fun c92 => ?_)
  · replace h0 := qi_t h0 c92
    refine ev_aload_n (pc := 147) (i := 0) rfl rfl rfl dX12_comes_147 ?_
    obtain ⟨g94, h95⟩ := qk_el h0; clear h0
    obtain ⟨x96, e97, h98⟩ := qv_el h95; clear h95
    refine xv_getIv (pc := 148) fn_938 (isb_el g94) e97 gw_1178 dX12_comes_148 ?_
    exact ev_weak (qL_s (qL_s (qL_s (qL_s (qL_s (qL_s (qL_s (qL_s (qL_s (qL_s (qL_n (qL_n (qL_n (qL_n (qL_n qL_nil))))))))))))))) (e_X12_comes_151 h98)
  · replace h0 := qi_f h0 c92
    refine ev_iconst (pc := 143) (v := 0) (by decide) dX12_comes_143 ?_
    refine ev_goto (pc := 144) (tgt := 151) (by decide) dX12_comes_144 ?_
    exact ev_weak (qL_s (qL_s (qL_s (qL_s (qL_s (qL_s (qL_s (qL_s (qL_s (qL_s (qL_n (qL_n (qL_n (qL_n (qL_n qL_nil))))))))))))))) (e_X12_comes_151 h0)
theorem e_X12_comes_113 {X : gk_X} {F : Nat} {l0 : Nat} {l1 : Int32} {l2 : Int32} {l3 : Int32} {l4 : Int32} {l5 : Int32} {l6 : Int32} {l7 : Int32} {s0 : Int32} {S : gk_S} {r : (Int32 × gk_S)} (h0 : f_X12_comes_113 F l0 l1 l2 l3 l4 l5 l6 l7 s0 S = some r) : EvW X m_X12_comes 3 0 0 113 [some (.ref l0), some (.int l1), some (.int l2), some (.int l3), some (.int l4), some (.int l5), some (.int l6), some (.int l7), none, none, none, none, none, none, none] [.int s0] S (qRI r) := by
  unfold f_X12_comes_113 at h0
  refine ev_istore (pc := 113) (L' := [some (.ref l0), some (.int l1), some (.int l2), some (.int l3), some (.int l4), some (.int l5), some (.int l6), some (.int l7), some (.int s0), none, none, none, none, none, none]) (i := 8) (by decide) rfl rfl dX12_comes_113 ?_
  refine ev_iload (pc := 115) (i := 8) rfl dX12_comes_115 ?_
  refine ev_if_eq (pc := 117) (tgt := 124) (by decide) dX12_comes_117 (fun c84 => ?_) (fun c84 => ?_)
  · replace h0 := qi_t h0 c84
    refine ev_aload_n (pc := 124) (i := 0) rfl rfl rfl dX12_comes_124 ?_
    refine ev_iload_n (pc := 125) (i := 2) rfl rfl dX12_comes_125 ?_
    refine ev_iload_n (pc := 126) (i := 3) rfl rfl dX12_comes_126 ?_
    refine ev_iload (pc := 127) (i := 4) rfl dX12_comes_127 ?_
    refine ev_iload (pc := 129) (i := 5) rfl dX12_comes_129 ?_
    refine ev_iload (pc := 131) (i := 6) rfl dX12_comes_131 ?_
    obtain ⟨g86, h87⟩ := qk_el h0; clear h0
    obtain ⟨x88, S89, e90, h91⟩ := qc_el h87; clear h87
    refine xv_callV (pc := 133) (st := []) (as := [.int l2, .int l3, .int l4, .int l5, .int l6]) (v := (some (.int x88))) (S' := S89) ok_X12_find (e_X12_find e90) (isb_el g86) (by decide) rfl (Nat.le_of_ble_eq_true rfl) rfl gw_1552 dX12_comes_133 ?_
    exact ev_weak (qL_s (qL_s (qL_s (qL_s (qL_s (qL_s (qL_s (qL_s (qL_s (qL_n (qL_n (qL_n (qL_n (qL_n (qL_n qL_nil))))))))))))))) (e_X12_comes_136 h91)
  · replace h0 := qi_f h0 c84
    refine ev_iconst (pc := 120) (v := -1) (by decide) dX12_comes_120 ?_
    refine ev_goto (pc := 121) (tgt := 136) (by decide) dX12_comes_121 ?_
    exact ev_weak (qL_s (qL_s (qL_s (qL_s (qL_s (qL_s (qL_s (qL_s (qL_s (qL_n (qL_n (qL_n (qL_n (qL_n (qL_n qL_nil))))))))))))))) (e_X12_comes_136 h0)
theorem e_X12_comes {X : gk_X} {F : Nat} {S : gk_S} {a : Nat} {p0 : Int32} {p1 : Int32} {p2 : Int32} {p3 : Int32} {p4 : Int32} {p5 : Int32} {p6 : Int32} {r : (Int32 × gk_S)} (h0 : f_X12_comes F S a p0 p1 p2 p3 p4 p5 p6 = some r) : EvM X m_X12_comes 3 0 0 [.ref a, .int p0, .int p1, .int p2, .int p3, .int p4, .int p5, .int p6] S (qRI r) := by
  unfold f_X12_comes at h0
  refine ev_method (by decide +kernel) rfl rfl (Nat.le_of_ble_eq_true rfl) ?_
  show EvW X m_X12_comes 3 0 0 0 [some (.ref a), some (.int p0), some (.int p1), some (.int p2), some (.int p3), some (.int p4), some (.int p5), some (.int p6), none, none, none, none, none, none, none] [] S _
  refine ev_aload_n (pc := 0) (i := 0) rfl rfl rfl dX12_comes_0 ?_
  refine ev_dup (pc := 1) (.inr rfl) dX12_comes_1 ?_
  obtain ⟨g1, h2⟩ := qk_el h0; clear h0
  obtain ⟨x3, e4, h5⟩ := qv_el h2; clear h2
  refine xv_getIv (pc := 2) fn_935 (isb_el g1) e4 gw_1175 dX12_comes_2 ?_
  refine ev_iconst (pc := 5) (v := 1) (by decide) dX12_comes_5 ?_
  refine ev_iadd (pc := 6)  dX12_comes_6 ?_
  obtain ⟨S6, e7, h8⟩ := qv_el h5; clear h5
  refine yv_putI (pc := 7) fn_935 ⟨rfl, rfl⟩ (isb_el g1) e7 gw_1175 dX12_comes_7 ?_
  refine ev_aload_n (pc := 10) (i := 0) rfl rfl rfl dX12_comes_10 ?_
  obtain ⟨b9, e10, h11⟩ := qP_el h8; clear h8
  refine xv_getP (pc := 11) fn_939 (is_sI (isb_el g1) e7) e10 gw_1179 dX12_comes_11 ?_
  refine ev_iconst (pc := 14) (v := 0) (by decide) dX12_comes_14 ?_
  refine ev_iload_n (pc := 15) (i := 1) rfl rfl dX12_comes_15 ?_
  obtain ⟨g12, h13⟩ := qk_el h11; clear h11
  obtain ⟨g14, h15⟩ := qk_el h13; clear h13
  obtain ⟨S16, e17, h18⟩ := qv_el h15; clear h15
  refine yv_iast (pc := 16) (isb_el g12) (inb_el g14) e17 dX12_comes_16 ?_
  refine ev_aload_n (pc := 17) (i := 0) rfl rfl rfl dX12_comes_17 ?_
  obtain ⟨b19, e20, h21⟩ := qP_el h18; clear h18
  refine xv_getP (pc := 18) fn_939 (is_wI (is_sI (isb_el g1) e7) e17) e20 gw_1179 dX12_comes_18 ?_
  refine ev_iconst (pc := 21) (v := 1) (by decide) dX12_comes_21 ?_
  refine ev_iload_n (pc := 22) (i := 2) rfl rfl dX12_comes_22 ?_
  obtain ⟨g22, h23⟩ := qk_el h21; clear h21
  obtain ⟨g24, h25⟩ := qk_el h23; clear h23
  obtain ⟨S26, e27, h28⟩ := qv_el h25; clear h25
  refine yv_iast (pc := 23) (isb_el g22) (inb_el g24) e27 dX12_comes_23 ?_
  refine ev_aload_n (pc := 24) (i := 0) rfl rfl rfl dX12_comes_24 ?_
  obtain ⟨b29, e30, h31⟩ := qP_el h28; clear h28
  refine xv_getP (pc := 25) fn_939 (is_wI (is_wI (is_sI (isb_el g1) e7) e17) e27) e30 gw_1179 dX12_comes_25 ?_
  refine ev_iconst (pc := 28) (v := 2) (by decide) dX12_comes_28 ?_
  refine ev_iload_n (pc := 29) (i := 3) rfl rfl dX12_comes_29 ?_
  obtain ⟨g32, h33⟩ := qk_el h31; clear h31
  obtain ⟨g34, h35⟩ := qk_el h33; clear h33
  obtain ⟨S36, e37, h38⟩ := qv_el h35; clear h35
  refine yv_iast (pc := 30) (isb_el g32) (inb_el g34) e37 dX12_comes_30 ?_
  refine ev_aload_n (pc := 31) (i := 0) rfl rfl rfl dX12_comes_31 ?_
  obtain ⟨b39, e40, h41⟩ := qP_el h38; clear h38
  refine xv_getP (pc := 32) fn_939 (is_wI (is_wI (is_wI (is_sI (isb_el g1) e7) e17) e27) e37) e40 gw_1179 dX12_comes_32 ?_
  refine ev_iconst (pc := 35) (v := 3) (by decide) dX12_comes_35 ?_
  refine ev_iload (pc := 36) (i := 4) rfl dX12_comes_36 ?_
  obtain ⟨g42, h43⟩ := qk_el h41; clear h41
  obtain ⟨g44, h45⟩ := qk_el h43; clear h43
  obtain ⟨S46, e47, h48⟩ := qv_el h45; clear h45
  refine yv_iast (pc := 38) (isb_el g42) (inb_el g44) e47 dX12_comes_38 ?_
  refine ev_aload_n (pc := 39) (i := 0) rfl rfl rfl dX12_comes_39 ?_
  obtain ⟨b49, e50, h51⟩ := qP_el h48; clear h48
  refine xv_getP (pc := 40) fn_939 (is_wI (is_wI (is_wI (is_wI (is_sI (isb_el g1) e7) e17) e27) e37) e47) e50 gw_1179 dX12_comes_40 ?_
  refine ev_iconst (pc := 43) (v := 4) (by decide) dX12_comes_43 ?_
  refine ev_iload (pc := 44) (i := 5) rfl dX12_comes_44 ?_
  obtain ⟨g52, h53⟩ := qk_el h51; clear h51
  obtain ⟨g54, h55⟩ := qk_el h53; clear h53
  obtain ⟨S56, e57, h58⟩ := qv_el h55; clear h55
  refine yv_iast (pc := 46) (isb_el g52) (inb_el g54) e57 dX12_comes_46 ?_
  refine ev_aload_n (pc := 47) (i := 0) rfl rfl rfl dX12_comes_47 ?_
  obtain ⟨b59, e60, h61⟩ := qP_el h58; clear h58
  refine xv_getP (pc := 48) fn_939 (is_wI (is_wI (is_wI (is_wI (is_wI (is_sI (isb_el g1) e7) e17) e27) e37) e47) e57) e60 gw_1179 dX12_comes_48 ?_
  refine ev_iconst (pc := 51) (v := 5) (by decide) dX12_comes_51 ?_
  refine ev_iload (pc := 52) (i := 6) rfl dX12_comes_52 ?_
  obtain ⟨g62, h63⟩ := qk_el h61; clear h61
  obtain ⟨g64, h65⟩ := qk_el h63; clear h63
  obtain ⟨S66, e67, h68⟩ := qv_el h65; clear h65
  refine yv_iast (pc := 54) (isb_el g62) (inb_el g64) e67 dX12_comes_54 ?_
  refine ev_aload_n (pc := 55) (i := 0) rfl rfl rfl dX12_comes_55 ?_
  obtain ⟨b69, e70, h71⟩ := qP_el h68; clear h68
  refine xv_getP (pc := 56) fn_939 (is_wI (is_wI (is_wI (is_wI (is_wI (is_wI (is_sI (isb_el g1) e7) e17) e27) e37) e47) e57) e67) e70 gw_1179 dX12_comes_56 ?_
  refine ev_bipush (pc := 59) (v := 6) (by decide) dX12_comes_59 ?_
  refine ev_iload (pc := 61) (i := 7) rfl dX12_comes_61 ?_
  obtain ⟨g72, h73⟩ := qk_el h71; clear h71
  obtain ⟨g74, h75⟩ := qk_el h73; clear h73
  obtain ⟨S76, e77, h78⟩ := qv_el h75; clear h75
  refine yv_iast (pc := 63) (isb_el g72) (inb_el g74) e77 dX12_comes_63 ?_
  refine ev_aload_n (pc := 64) (i := 0) rfl rfl rfl dX12_comes_64 ?_
  obtain ⟨x79, e80, h81⟩ := qv_el h78; clear h78
  refine xv_getIv (pc := 65) fn_941 (is_wI (is_wI (is_wI (is_wI (is_wI (is_wI (is_wI (is_sI (isb_el g1) e7) e17) e27) e37) e47) e57) e67) e77) e80 gw_1181 dX12_comes_65 ?_
  refine ev_if_eq (pc := 68) (tgt := 112) (by decide) dX12_comes_68 (fun c82 => ?_) (fun c82 => ?_)
  · replace h81 := qi_t h81 c82
    refine ev_iconst (pc := 112) (v := 0) (by decide) dX12_comes_112 ?_
    exact ev_weak (qL_s (qL_s (qL_s (qL_s (qL_s (qL_s (qL_s (qL_s (qL_n (qL_n (qL_n (qL_n (qL_n (qL_n (qL_n qL_nil))))))))))))))) (e_X12_comes_113 h81)
  · replace h81 := qi_f h81 c82
    refine ev_aload_n (pc := 71) (i := 0) rfl rfl rfl dX12_comes_71 ?_
    refine ev_aload_n (pc := 72) (i := 0) rfl rfl rfl dX12_comes_72 ?_
    obtain ⟨b238, e239, h240⟩ := qP_el h81; clear h81
    refine xv_getP (pc := 73) fn_940 (is_wI (is_wI (is_wI (is_wI (is_wI (is_wI (is_wI (is_sI (isb_el g1) e7) e17) e27) e37) e47) e57) e67) e77) e239 gw_1180 dX12_comes_73 ?_
    refine ev_iconst (pc := 76) (v := 0) (by decide) dX12_comes_76 ?_
    obtain ⟨g241, h242⟩ := qk_el h240; clear h240
    obtain ⟨g243, h244⟩ := qk_el h242; clear h242
    obtain ⟨x245, e246, h247⟩ := qv_el h244; clear h244
    refine yv_iald (pc := 77) (isb_el g241) (inb_el g243) e246 dX12_comes_77 ?_
    refine ev_aload_n (pc := 78) (i := 0) rfl rfl rfl dX12_comes_78 ?_
    obtain ⟨b248, e249, h250⟩ := qP_el h247; clear h247
    refine xv_getP (pc := 79) fn_940 (is_wI (is_wI (is_wI (is_wI (is_wI (is_wI (is_wI (is_sI (isb_el g1) e7) e17) e27) e37) e47) e57) e67) e77) e249 gw_1180 dX12_comes_79 ?_
    refine ev_iconst (pc := 82) (v := 1) (by decide) dX12_comes_82 ?_
    obtain ⟨g251, h252⟩ := qk_el h250; clear h250
    obtain ⟨g253, h254⟩ := qk_el h252; clear h252
    obtain ⟨x255, e256, h257⟩ := qv_el h254; clear h254
    refine yv_iald (pc := 83) (isb_el g251) (inb_el g253) e256 dX12_comes_83 ?_
    refine ev_aload_n (pc := 84) (i := 0) rfl rfl rfl dX12_comes_84 ?_
    obtain ⟨b258, e259, h260⟩ := qP_el h257; clear h257
    refine xv_getP (pc := 85) fn_940 (is_wI (is_wI (is_wI (is_wI (is_wI (is_wI (is_wI (is_sI (isb_el g1) e7) e17) e27) e37) e47) e57) e67) e77) e259 gw_1180 dX12_comes_85 ?_
    refine ev_iconst (pc := 88) (v := 2) (by decide) dX12_comes_88 ?_
    obtain ⟨g261, h262⟩ := qk_el h260; clear h260
    obtain ⟨g263, h264⟩ := qk_el h262; clear h262
    obtain ⟨x265, e266, h267⟩ := qv_el h264; clear h264
    refine yv_iald (pc := 89) (isb_el g261) (inb_el g263) e266 dX12_comes_89 ?_
    refine ev_aload_n (pc := 90) (i := 0) rfl rfl rfl dX12_comes_90 ?_
    obtain ⟨b268, e269, h270⟩ := qP_el h267; clear h267
    refine xv_getP (pc := 91) fn_940 (is_wI (is_wI (is_wI (is_wI (is_wI (is_wI (is_wI (is_sI (isb_el g1) e7) e17) e27) e37) e47) e57) e67) e77) e269 gw_1180 dX12_comes_91 ?_
    refine ev_iconst (pc := 94) (v := 3) (by decide) dX12_comes_94 ?_
    obtain ⟨g271, h272⟩ := qk_el h270; clear h270
    obtain ⟨g273, h274⟩ := qk_el h272; clear h272
    obtain ⟨x275, e276, h277⟩ := qv_el h274; clear h274
    refine yv_iald (pc := 95) (isb_el g271) (inb_el g273) e276 dX12_comes_95 ?_
    refine ev_aload_n (pc := 96) (i := 0) rfl rfl rfl dX12_comes_96 ?_
    obtain ⟨b278, e279, h280⟩ := qP_el h277; clear h277
    refine xv_getP (pc := 97) fn_940 (is_wI (is_wI (is_wI (is_wI (is_wI (is_wI (is_wI (is_sI (isb_el g1) e7) e17) e27) e37) e47) e57) e67) e77) e279 gw_1180 dX12_comes_97 ?_
    refine ev_iconst (pc := 100) (v := 4) (by decide) dX12_comes_100 ?_
    obtain ⟨g281, h282⟩ := qk_el h280; clear h280
    obtain ⟨g283, h284⟩ := qk_el h282; clear h282
    obtain ⟨x285, e286, h287⟩ := qv_el h284; clear h284
    refine yv_iald (pc := 101) (isb_el g281) (inb_el g283) e286 dX12_comes_101 ?_
    obtain ⟨x288, S289, e290, h291⟩ := qc_el h287; clear h287
    refine xv_callV (pc := 102) (st := []) (as := [.int x245, .int x255, .int x265, .int x275, .int x285]) (v := (some (.int x288))) (S' := S289) ok_X12_find (e_X12_find e290) (is_wI (is_wI (is_wI (is_wI (is_wI (is_wI (is_wI (is_sI (isb_el g1) e7) e17) e27) e37) e47) e57) e67) e77) (by decide) rfl (Nat.le_of_ble_eq_true rfl) rfl gw_1552 dX12_comes_102 ?_
    refine ev_if_lt (pc := 105) (tgt := 112) (by decide) dX12_comes_105 (fun c292 => ?_) (fun c292 => ?_)
    · replace h291 := qi_t h291 c292
      refine ev_iconst (pc := 112) (v := 0) (by decide) dX12_comes_112 ?_
      exact ev_weak (qL_s (qL_s (qL_s (qL_s (qL_s (qL_s (qL_s (qL_s (qL_n (qL_n (qL_n (qL_n (qL_n (qL_n (qL_n qL_nil))))))))))))))) (e_X12_comes_113 h291)
    · replace h291 := qi_f h291 c292
      refine ev_iconst (pc := 108) (v := 1) (by decide) dX12_comes_108 ?_
      refine ev_goto (pc := 109) (tgt := 113) (by decide) dX12_comes_109 ?_
      exact ev_weak (qL_s (qL_s (qL_s (qL_s (qL_s (qL_s (qL_s (qL_s (qL_n (qL_n (qL_n (qL_n (qL_n (qL_n (qL_n qL_nil))))))))))))))) (e_X12_comes_113 h291)
theorem dX12_packet_0 : decode cX12_packet 0 = .ok (.aload_n 0, 1) := by decide +kernel
theorem dX12_packet_1 : decode cX12_packet 1 = .ok (.iload_n 1, 1) := by decide +kernel
theorem dX12_packet_2 : decode cX12_packet 2 = .ok (.iconst 3, 1) := by decide +kernel
theorem dX12_packet_3 : decode cX12_packet 3 = .ok (.invokestatic 250, 3) := by decide +kernel
theorem dX12_packet_6 : decode cX12_packet 6 = .ok (.ifCond .ne 43, 3) := by decide +kernel
theorem dX12_packet_9 : decode cX12_packet 9 = .ok (.iload_n 2, 1) := by decide +kernel
theorem dX12_packet_10 : decode cX12_packet 10 = .ok (.sipush 255, 3) := by decide +kernel
theorem dX12_packet_13 : decode cX12_packet 13 = .ok (.invokestatic 250, 3) := by decide +kernel
theorem dX12_packet_16 : decode cX12_packet 16 = .ok (.ifCond .ne 33, 3) := by decide +kernel
theorem dX12_packet_19 : decode cX12_packet 19 = .ok (.iload 5, 2) := by decide +kernel
theorem dX12_packet_21 : decode cX12_packet 21 = .ok (.ldc 253, 2) := by decide +kernel
theorem dX12_packet_23 : decode cX12_packet 23 = .ok (.invokestatic 250, 3) := by decide +kernel
theorem dX12_packet_26 : decode cX12_packet 26 = .ok (.ifCond .ne 23, 3) := by decide +kernel
theorem dX12_packet_29 : decode cX12_packet 29 = .ok (.iload 6, 2) := by decide +kernel
theorem dX12_packet_31 : decode cX12_packet 31 = .ok (.ldc 253, 2) := by decide +kernel
theorem dX12_packet_33 : decode cX12_packet 33 = .ok (.invokestatic 250, 3) := by decide +kernel
theorem dX12_packet_36 : decode cX12_packet 36 = .ok (.ifCond .ne 13, 3) := by decide +kernel
theorem dX12_packet_39 : decode cX12_packet 39 = .ok (.iload 7, 2) := by decide +kernel
theorem dX12_packet_41 : decode cX12_packet 41 = .ok (.bipush 63, 2) := by decide +kernel
theorem dX12_packet_43 : decode cX12_packet 43 = .ok (.invokestatic 250, 3) := by decide +kernel
theorem dX12_packet_46 : decode cX12_packet 46 = .ok (.ifCond .eq 7, 3) := by decide +kernel
theorem dX12_packet_49 : decode cX12_packet 49 = .ok (.iconst 1, 1) := by decide +kernel
theorem dX12_packet_50 : decode cX12_packet 50 = .ok (.goto 4, 3) := by decide +kernel
theorem dX12_packet_53 : decode cX12_packet 53 = .ok (.iconst 0, 1) := by decide +kernel
theorem dX12_packet_54 : decode cX12_packet 54 = .ok (.iconst 1, 1) := by decide +kernel
theorem dX12_packet_55 : decode cX12_packet 55 = .ok (.invokevirtual 176, 3) := by decide +kernel
theorem dX12_packet_58 : decode cX12_packet 58 = .ok (.ifCond .eq 5, 3) := by decide +kernel
theorem dX12_packet_61 : decode cX12_packet 61 = .ok (.iconst 0, 1) := by decide +kernel
theorem dX12_packet_62 : decode cX12_packet 62 = .ok (.ireturn, 1) := by decide +kernel
theorem dX12_packet_63 : decode cX12_packet 63 = .ok (.aload_n 0, 1) := by decide +kernel
theorem dX12_packet_64 : decode cX12_packet 64 = .ok (.iconst 0, 1) := by decide +kernel
theorem dX12_packet_65 : decode cX12_packet 65 = .ok (.putfield 357, 3) := by decide +kernel
theorem dX12_packet_68 : decode cX12_packet 68 = .ok (.aload_n 0, 1) := by decide +kernel
theorem dX12_packet_69 : decode cX12_packet 69 = .ok (.iload_n 1, 1) := by decide +kernel
theorem dX12_packet_70 : decode cX12_packet 70 = .ok (.iload_n 2, 1) := by decide +kernel
theorem dX12_packet_71 : decode cX12_packet 71 = .ok (.iload_n 3, 1) := by decide +kernel
theorem dX12_packet_72 : decode cX12_packet 72 = .ok (.iload 4, 2) := by decide +kernel
theorem dX12_packet_74 : decode cX12_packet 74 = .ok (.iload 5, 2) := by decide +kernel
theorem dX12_packet_76 : decode cX12_packet 76 = .ok (.iload 6, 2) := by decide +kernel
theorem dX12_packet_78 : decode cX12_packet 78 = .ok (.iload 7, 2) := by decide +kernel
theorem dX12_packet_80 : decode cX12_packet 80 = .ok (.invokevirtual 359, 3) := by decide +kernel
theorem dX12_packet_83 : decode cX12_packet 83 = .ok (.ireturn, 1) := by decide +kernel
theorem e_X12_packet_54 {X : gk_X} {F : Nat} {l0 : Nat} {l1 : Int32} {l2 : Int32} {l3 : Int32} {l4 : Int32} {l5 : Int32} {l6 : Int32} {l7 : Int32} {s0 : Int32} {s1 : Nat} {S : gk_S} {r : (Int32 × gk_S)} (h0 : f_X12_packet_54 F l0 l1 l2 l3 l4 l5 l6 l7 s0 s1 S = some r) : EvW X m_X12_packet 4 0 0 54 [some (.ref l0), some (.int l1), some (.int l2), some (.int l3), some (.int l4), some (.int l5), some (.int l6), some (.int l7)] [.int s0, .ref s1] S (qRI r) := by
  unfold f_X12_packet_54 at h0
  refine ev_iconst (pc := 54) (v := 1) (by decide) dX12_packet_54 ?_
  obtain ⟨g7, h8⟩ := qk_el h0; clear h0
  obtain ⟨x9, S10, e11, h12⟩ := qc_el h8; clear h8
  refine xv_callV (pc := 55) (st := []) (as := [.int s0, .int 1]) (v := (some (.int x9))) (S' := S10) ok_X12_throwsIf (e_X12_throwsIf e11) (isb_el g7) (by decide) rfl (Nat.le_of_ble_eq_true rfl) rfl gw_1272 dX12_packet_55 ?_
  refine ev_if_eq (pc := 58) (tgt := 63) (by decide) dX12_packet_58 (fun c13 => ?_) (fun c13 => ?_)
  · replace h12 := qi_t h12 c13
    refine ev_aload_n (pc := 63) (i := 0) rfl rfl rfl dX12_packet_63 ?_
    refine ev_iconst (pc := 64) (v := 0) (by decide) dX12_packet_64 ?_
    obtain ⟨g15, h16⟩ := qk_el h12; clear h12
    obtain ⟨S17, e18, h19⟩ := qv_el h16; clear h16
    refine yv_putI (pc := 65) fn_941 ⟨rfl, rfl⟩ (isb_el g15) e18 gw_1181 dX12_packet_65 ?_
    refine ev_aload_n (pc := 68) (i := 0) rfl rfl rfl dX12_packet_68 ?_
    refine ev_iload_n (pc := 69) (i := 1) rfl rfl dX12_packet_69 ?_
    refine ev_iload_n (pc := 70) (i := 2) rfl rfl dX12_packet_70 ?_
    refine ev_iload_n (pc := 71) (i := 3) rfl rfl dX12_packet_71 ?_
    refine ev_iload (pc := 72) (i := 4) rfl dX12_packet_72 ?_
    refine ev_iload (pc := 74) (i := 5) rfl dX12_packet_74 ?_
    refine ev_iload (pc := 76) (i := 6) rfl dX12_packet_76 ?_
    refine ev_iload (pc := 78) (i := 7) rfl dX12_packet_78 ?_
    obtain ⟨x20, S21, e22, h23⟩ := qc_el h19; clear h19
    refine xv_callV (pc := 80) (st := []) (as := [.int l1, .int l2, .int l3, .int l4, .int l5, .int l6, .int l7]) (v := (some (.int x20))) (S' := S21) ok_X12_comes (e_X12_comes e22) (is_sI (isb_el g15) e18) (by decide) rfl (Nat.le_of_ble_eq_true rfl) rfl gw_1548 dX12_packet_80 ?_
    exact ev_ireturn (pc := 83) rfl (nar_int _) (qRI_eq h23) dX12_packet_83
  · replace h12 := qi_f h12 c13
    refine ev_iconst (pc := 61) (v := 0) (by decide) dX12_packet_61 ?_
    exact ev_ireturn (pc := 62) rfl (nar_int _) (qRI_eq h12) dX12_packet_62
theorem e_X12_packet {X : gk_X} {F : Nat} {S : gk_S} {a : Nat} {p0 : Int32} {p1 : Int32} {p2 : Int32} {p3 : Int32} {p4 : Int32} {p5 : Int32} {p6 : Int32} {r : (Int32 × gk_S)} (h0 : f_X12_packet F S a p0 p1 p2 p3 p4 p5 p6 = some r) : EvM X m_X12_packet 4 0 0 [.ref a, .int p0, .int p1, .int p2, .int p3, .int p4, .int p5, .int p6] S (qRI r) := by
  unfold f_X12_packet at h0
  refine ev_method (by decide +kernel) rfl rfl (Nat.le_of_ble_eq_true rfl) ?_
  show EvW X m_X12_packet 4 0 0 0 [some (.ref a), some (.int p0), some (.int p1), some (.int p2), some (.int p3), some (.int p4), some (.int p5), some (.int p6)] [] S _
  refine ev_aload_n (pc := 0) (i := 0) rfl rfl rfl dX12_packet_0 ?_
  refine ev_iload_n (pc := 1) (i := 1) rfl rfl dX12_packet_1 ?_
  refine ev_iconst (pc := 2) (v := 3) (by decide) dX12_packet_2 ?_
  obtain ⟨x1, S2, e3, h4⟩ := qc_el h0; clear h0
  refine xv_callS (pc := 3) (st := [.ref a]) (as := [.int p0, .int 3]) (v := (some (.int x1))) (S' := S2) ok_X12_isNone (e_X12_isNone e3) (by decide) rfl (Nat.le_of_ble_eq_true rfl) rfl gw_1432 dX12_packet_3 ?_
  refine ev_if_ne (pc := 6) (tgt := 49) (by decide) dX12_packet_6 (fun c5 => ?_) (fun c5 => ?_)
  · replace h4 := qi_f h4 c5
    refine ev_iconst (pc := 49) (v := 1) (by decide) dX12_packet_49 ?_
    refine ev_goto (pc := 50) (tgt := 54) (by decide) dX12_packet_50 ?_
    exact ev_weak (qL_s (qL_s (qL_s (qL_s (qL_s (qL_s (qL_s (qL_s qL_nil)))))))) (e_X12_packet_54 h4)
  · replace h4 := qi_t h4 c5
    refine ev_iload_n (pc := 9) (i := 2) rfl rfl dX12_packet_9 ?_
    refine ev_sipush (pc := 10) (v := 255) (by decide) dX12_packet_10 ?_
    obtain ⟨x24, S25, e26, h27⟩ := qc_el h4; clear h4
    refine xv_callS (pc := 13) (st := [.ref a]) (as := [.int p1, .int 255]) (v := (some (.int x24))) (S' := S25) ok_X12_isNone (e_X12_isNone e26) (by decide) rfl (Nat.le_of_ble_eq_true rfl) rfl gw_1432 dX12_packet_13 ?_
    refine ev_if_ne (pc := 16) (tgt := 49) (by decide) dX12_packet_16 (fun c28 => ?_) (fun c28 => ?_)
    · replace h27 := qi_f h27 c28
      refine ev_iconst (pc := 49) (v := 1) (by decide) dX12_packet_49 ?_
      refine ev_goto (pc := 50) (tgt := 54) (by decide) dX12_packet_50 ?_
      exact ev_weak (qL_s (qL_s (qL_s (qL_s (qL_s (qL_s (qL_s (qL_s qL_nil)))))))) (e_X12_packet_54 h27)
    · replace h27 := qi_t h27 c28
      refine ev_iload (pc := 19) (i := 5) rfl dX12_packet_19 ?_
      refine ev_ldc (pc := 21) (v := 65535) gw_1435 dX12_packet_21 ?_
      obtain ⟨x30, S31, e32, h33⟩ := qc_el h27; clear h27
      refine xv_callS (pc := 23) (st := [.ref a]) (as := [.int p4, .int 65535]) (v := (some (.int x30))) (S' := S31) ok_X12_isNone (e_X12_isNone e32) (by decide) rfl (Nat.le_of_ble_eq_true rfl) rfl gw_1432 dX12_packet_23 ?_
      refine ev_if_ne (pc := 26) (tgt := 49) (by decide) dX12_packet_26 (fun c34 => ?_) (fun c34 => ?_)
      · replace h33 := qi_f h33 c34
        refine ev_iconst (pc := 49) (v := 1) (by decide) dX12_packet_49 ?_
        refine ev_goto (pc := 50) (tgt := 54) (by decide) dX12_packet_50 ?_
        exact ev_weak (qL_s (qL_s (qL_s (qL_s (qL_s (qL_s (qL_s (qL_s qL_nil)))))))) (e_X12_packet_54 h33)
      · replace h33 := qi_t h33 c34
        refine ev_iload (pc := 29) (i := 6) rfl dX12_packet_29 ?_
        refine ev_ldc (pc := 31) (v := 65535) gw_1435 dX12_packet_31 ?_
        obtain ⟨x36, S37, e38, h39⟩ := qc_el h33; clear h33
        refine xv_callS (pc := 33) (st := [.ref a]) (as := [.int p5, .int 65535]) (v := (some (.int x36))) (S' := S37) ok_X12_isNone (e_X12_isNone e38) (by decide) rfl (Nat.le_of_ble_eq_true rfl) rfl gw_1432 dX12_packet_33 ?_
        refine ev_if_ne (pc := 36) (tgt := 49) (by decide) dX12_packet_36 (fun c40 => ?_) (fun c40 => ?_)
        · replace h39 := qi_f h39 c40
          refine ev_iconst (pc := 49) (v := 1) (by decide) dX12_packet_49 ?_
          refine ev_goto (pc := 50) (tgt := 54) (by decide) dX12_packet_50 ?_
          exact ev_weak (qL_s (qL_s (qL_s (qL_s (qL_s (qL_s (qL_s (qL_s qL_nil)))))))) (e_X12_packet_54 h39)
        · replace h39 := qi_t h39 c40
          refine ev_iload (pc := 39) (i := 7) rfl dX12_packet_39 ?_
          refine ev_bipush (pc := 41) (v := 63) (by decide) dX12_packet_41 ?_
          obtain ⟨x42, S43, e44, h45⟩ := qc_el h39; clear h39
          refine xv_callS (pc := 43) (st := [.ref a]) (as := [.int p6, .int 63]) (v := (some (.int x42))) (S' := S43) ok_X12_isNone (e_X12_isNone e44) (by decide) rfl (Nat.le_of_ble_eq_true rfl) rfl gw_1432 dX12_packet_43 ?_
          refine ev_if_eq (pc := 46) (tgt := 53) (by decide) dX12_packet_46 (fun c46 => ?_) (fun c46 => ?_)
          · replace h45 := qi_t h45 c46
            refine ev_iconst (pc := 53) (v := 0) (by decide) dX12_packet_53 ?_
            exact ev_weak (qL_s (qL_s (qL_s (qL_s (qL_s (qL_s (qL_s (qL_s qL_nil)))))))) (e_X12_packet_54 h45)
          · replace h45 := qi_f h45 c46
            refine ev_iconst (pc := 49) (v := 1) (by decide) dX12_packet_49 ?_
            refine ev_goto (pc := 50) (tgt := 54) (by decide) dX12_packet_50 ?_
            exact ev_weak (qL_s (qL_s (qL_s (qL_s (qL_s (qL_s (qL_s (qL_s qL_nil)))))))) (e_X12_packet_54 h45)
theorem dX12_faulty_0 : decode cX12_faulty 0 = .ok (.aload_n 0, 1) := by decide +kernel
theorem dX12_faulty_1 : decode cX12_faulty 1 = .ok (.iload_n 1, 1) := by decide +kernel
theorem dX12_faulty_2 : decode cX12_faulty 2 = .ok (.putfield 154, 3) := by decide +kernel
theorem dX12_faulty_5 : decode cX12_faulty 5 = .ok (.iconst (-1), 1) := by decide +kernel
theorem dX12_faulty_6 : decode cX12_faulty 6 = .ok (.iload_n 2, 1) := by decide +kernel
theorem dX12_faulty_7 : decode cX12_faulty 7 = .ok (.isub, 1) := by decide +kernel
theorem dX12_faulty_8 : decode cX12_faulty 8 = .ok (.ireturn, 1) := by decide +kernel
theorem e_X12_faulty {X : gk_X} {F : Nat} {S : gk_S} {a : Nat} {p0 : Int32} {p1 : Int32} {r : (Int32 × gk_S)} (h0 : f_X12_faulty F S a p0 p1 = some r) : EvM X m_X12_faulty 1 0 0 [.ref a, .int p0, .int p1] S (qRI r) := by
  unfold f_X12_faulty at h0
  refine ev_method (by decide +kernel) rfl rfl (Nat.le_of_ble_eq_true rfl) ?_
  show EvW X m_X12_faulty 1 0 0 0 [some (.ref a), some (.int p0), some (.int p1)] [] S _
  refine ev_aload_n (pc := 0) (i := 0) rfl rfl rfl dX12_faulty_0 ?_
  refine ev_iload_n (pc := 1) (i := 1) rfl rfl dX12_faulty_1 ?_
  obtain ⟨g1, h2⟩ := qk_el h0; clear h0
  obtain ⟨S3, e4, h5⟩ := qv_el h2; clear h2
  refine yv_putI (pc := 2) fn_918 ⟨rfl, rfl⟩ (isb_el g1) e4 gw_1158 dX12_faulty_2 ?_
  refine ev_iconst (pc := 5) (v := -1) (by decide) dX12_faulty_5 ?_
  refine ev_iload_n (pc := 6) (i := 2) rfl rfl dX12_faulty_6 ?_
  refine ev_isub (pc := 7)  dX12_faulty_7 ?_
  exact ev_ireturn (pc := 8) rfl (nar_int _) (qRI_eq h5) dX12_faulty_8
theorem dX12_two_0 : decode cX12_two 0 = .ok (.aload_n 0, 1) := by decide +kernel
theorem dX12_two_1 : decode cX12_two 1 = .ok (.getfield 14, 3) := by decide +kernel
theorem dX12_two_4 : decode cX12_two 4 = .ok (.iload_n 1, 1) := by decide +kernel
theorem dX12_two_5 : decode cX12_two 5 = .ok (.baload, 1) := by decide +kernel
theorem dX12_two_6 : decode cX12_two 6 = .ok (.sipush 255, 3) := by decide +kernel
theorem dX12_two_9 : decode cX12_two 9 = .ok (.iand, 1) := by decide +kernel
theorem dX12_two_10 : decode cX12_two 10 = .ok (.bipush 8, 2) := by decide +kernel
theorem dX12_two_12 : decode cX12_two 12 = .ok (.ishl, 1) := by decide +kernel
theorem dX12_two_13 : decode cX12_two 13 = .ok (.aload_n 0, 1) := by decide +kernel
theorem dX12_two_14 : decode cX12_two 14 = .ok (.getfield 14, 3) := by decide +kernel
theorem dX12_two_17 : decode cX12_two 17 = .ok (.iload_n 1, 1) := by decide +kernel
theorem dX12_two_18 : decode cX12_two 18 = .ok (.iconst 1, 1) := by decide +kernel
theorem dX12_two_19 : decode cX12_two 19 = .ok (.iadd, 1) := by decide +kernel
theorem dX12_two_20 : decode cX12_two 20 = .ok (.baload, 1) := by decide +kernel
theorem dX12_two_21 : decode cX12_two 21 = .ok (.sipush 255, 3) := by decide +kernel
theorem dX12_two_24 : decode cX12_two 24 = .ok (.iand, 1) := by decide +kernel
theorem dX12_two_25 : decode cX12_two 25 = .ok (.ior, 1) := by decide +kernel
theorem dX12_two_26 : decode cX12_two 26 = .ok (.ireturn, 1) := by decide +kernel
theorem e_X12_two {X : gk_X} {F : Nat} {S : gk_S} {a : Nat} {p0 : Int32} {r : (Int32 × gk_S)} (h0 : f_X12_two F S a p0 = some r) : EvM X m_X12_two 1 0 0 [.ref a, .int p0] S (qRI r) := by
  unfold f_X12_two at h0
  refine ev_method (by decide +kernel) rfl rfl (Nat.le_of_ble_eq_true rfl) ?_
  show EvW X m_X12_two 1 0 0 0 [some (.ref a), some (.int p0)] [] S _
  refine ev_aload_n (pc := 0) (i := 0) rfl rfl rfl dX12_two_0 ?_
  obtain ⟨g1, h2⟩ := qk_el h0; clear h0
  obtain ⟨b3, e4, h5⟩ := qP_el h2; clear h2
  refine xv_getP (pc := 1) fn_901 (isb_el g1) e4 gw_1141 dX12_two_1 ?_
  refine ev_iload_n (pc := 4) (i := 1) rfl rfl dX12_two_4 ?_
  obtain ⟨g6, h7⟩ := qk_el h5; clear h5
  obtain ⟨g8, h9⟩ := qk_el h7; clear h7
  obtain ⟨x10, e11, h12⟩ := qv_el h9; clear h9
  refine yv_bald (pc := 5) (isb_el g6) (inb_el g8) e11 dX12_two_5 ?_
  refine ev_sipush (pc := 6) (v := 255) (by decide) dX12_two_6 ?_
  refine ev_iand (pc := 9)  dX12_two_9 ?_
  refine ev_bipush (pc := 10) (v := 8) (by decide) dX12_two_10 ?_
  refine ev_ishl (pc := 12)  dX12_two_12 ?_
  refine ev_aload_n (pc := 13) (i := 0) rfl rfl rfl dX12_two_13 ?_
  obtain ⟨b13, e14, h15⟩ := qP_el h12; clear h12
  refine xv_getP (pc := 14) fn_901 (isb_el g1) e14 gw_1141 dX12_two_14 ?_
  refine ev_iload_n (pc := 17) (i := 1) rfl rfl dX12_two_17 ?_
  refine ev_iconst (pc := 18) (v := 1) (by decide) dX12_two_18 ?_
  refine ev_iadd (pc := 19)  dX12_two_19 ?_
  obtain ⟨g16, h17⟩ := qk_el h15; clear h15
  obtain ⟨g18, h19⟩ := qk_el h17; clear h17
  obtain ⟨x20, e21, h22⟩ := qv_el h19; clear h19
  refine yv_bald (pc := 20) (isb_el g16) (inb_el g18) e21 dX12_two_20 ?_
  refine ev_sipush (pc := 21) (v := 255) (by decide) dX12_two_21 ?_
  refine ev_iand (pc := 24)  dX12_two_24 ?_
  refine ev_ior (pc := 25)  dX12_two_25 ?_
  exact ev_ireturn (pc := 26) rfl (nar_int _) (qRI_eq h22) dX12_two_26
theorem dX12_summed_0 : decode cX12_summed 0 = .ok (.iload_n 3, 1) := by decide +kernel
theorem dX12_summed_1 : decode cX12_summed 1 = .ok (.i2l, 1) := by decide +kernel
theorem dX12_summed_2 : decode cX12_summed 2 = .ok (.lstore 4, 2) := by decide +kernel
theorem dX12_summed_4 : decode cX12_summed 4 = .ok (.iload_n 1, 1) := by decide +kernel
theorem dX12_summed_5 : decode cX12_summed 5 = .ok (.istore 6, 2) := by decide +kernel
theorem dX12_summed_7 : decode cX12_summed 7 = .ok (.iload 6, 2) := by decide +kernel
theorem dX12_summed_9 : decode cX12_summed 9 = .ok (.iload_n 2, 1) := by decide +kernel
theorem dX12_summed_10 : decode cX12_summed 10 = .ok (.if_icmp .ge 55, 3) := by decide +kernel
theorem dX12_summed_13 : decode cX12_summed 13 = .ok (.lload 4, 2) := by decide +kernel
theorem dX12_summed_15 : decode cX12_summed 15 = .ok (.aload_n 0, 1) := by decide +kernel
theorem dX12_summed_16 : decode cX12_summed 16 = .ok (.getfield 14, 3) := by decide +kernel
theorem dX12_summed_19 : decode cX12_summed 19 = .ok (.iload 6, 2) := by decide +kernel
theorem dX12_summed_21 : decode cX12_summed 21 = .ok (.baload, 1) := by decide +kernel
theorem dX12_summed_22 : decode cX12_summed 22 = .ok (.sipush 255, 3) := by decide +kernel
theorem dX12_summed_25 : decode cX12_summed 25 = .ok (.iand, 1) := by decide +kernel
theorem dX12_summed_26 : decode cX12_summed 26 = .ok (.bipush 8, 2) := by decide +kernel
theorem dX12_summed_28 : decode cX12_summed 28 = .ok (.ishl, 1) := by decide +kernel
theorem dX12_summed_29 : decode cX12_summed 29 = .ok (.iload 6, 2) := by decide +kernel
theorem dX12_summed_31 : decode cX12_summed 31 = .ok (.iconst 1, 1) := by decide +kernel
theorem dX12_summed_32 : decode cX12_summed 32 = .ok (.iadd, 1) := by decide +kernel
theorem dX12_summed_33 : decode cX12_summed 33 = .ok (.iload_n 2, 1) := by decide +kernel
theorem dX12_summed_34 : decode cX12_summed 34 = .ok (.if_icmp .ge 19, 3) := by decide +kernel
theorem dX12_summed_37 : decode cX12_summed 37 = .ok (.aload_n 0, 1) := by decide +kernel
theorem dX12_summed_38 : decode cX12_summed 38 = .ok (.getfield 14, 3) := by decide +kernel
theorem dX12_summed_41 : decode cX12_summed 41 = .ok (.iload 6, 2) := by decide +kernel
theorem dX12_summed_43 : decode cX12_summed 43 = .ok (.iconst 1, 1) := by decide +kernel
theorem dX12_summed_44 : decode cX12_summed 44 = .ok (.iadd, 1) := by decide +kernel
theorem dX12_summed_45 : decode cX12_summed 45 = .ok (.baload, 1) := by decide +kernel
theorem dX12_summed_46 : decode cX12_summed 46 = .ok (.sipush 255, 3) := by decide +kernel
theorem dX12_summed_49 : decode cX12_summed 49 = .ok (.iand, 1) := by decide +kernel
theorem dX12_summed_50 : decode cX12_summed 50 = .ok (.goto 4, 3) := by decide +kernel
theorem dX12_summed_53 : decode cX12_summed 53 = .ok (.iconst 0, 1) := by decide +kernel
theorem dX12_summed_54 : decode cX12_summed 54 = .ok (.ior, 1) := by decide +kernel
theorem dX12_summed_55 : decode cX12_summed 55 = .ok (.i2l, 1) := by decide +kernel
theorem dX12_summed_56 : decode cX12_summed 56 = .ok (.ladd, 1) := by decide +kernel
theorem dX12_summed_57 : decode cX12_summed 57 = .ok (.lstore 4, 2) := by decide +kernel
theorem dX12_summed_59 : decode cX12_summed 59 = .ok (.iinc 6 2, 3) := by decide +kernel
theorem dX12_summed_62 : decode cX12_summed 62 = .ok (.goto (-55), 3) := by decide +kernel
theorem dX12_summed_65 : decode cX12_summed 65 = .ok (.lload 4, 2) := by decide +kernel
theorem dX12_summed_67 : decode cX12_summed 67 = .ok (.ldc2_w 27, 3) := by decide +kernel
theorem dX12_summed_70 : decode cX12_summed 70 = .ok (.lcmp, 1) := by decide +kernel
theorem dX12_summed_71 : decode cX12_summed 71 = .ok (.ifCond .le 20, 3) := by decide +kernel
theorem dX12_summed_74 : decode cX12_summed 74 = .ok (.lload 4, 2) := by decide +kernel
theorem dX12_summed_76 : decode cX12_summed 76 = .ok (.ldc2_w 27, 3) := by decide +kernel
theorem dX12_summed_79 : decode cX12_summed 79 = .ok (.land, 1) := by decide +kernel
theorem dX12_summed_80 : decode cX12_summed 80 = .ok (.lload 4, 2) := by decide +kernel
theorem dX12_summed_82 : decode cX12_summed 82 = .ok (.bipush 16, 2) := by decide +kernel
theorem dX12_summed_84 : decode cX12_summed 84 = .ok (.lshr, 1) := by decide +kernel
theorem dX12_summed_85 : decode cX12_summed 85 = .ok (.ladd, 1) := by decide +kernel
theorem dX12_summed_86 : decode cX12_summed 86 = .ok (.lstore 4, 2) := by decide +kernel
theorem dX12_summed_88 : decode cX12_summed 88 = .ok (.goto (-23), 3) := by decide +kernel
theorem dX12_summed_91 : decode cX12_summed 91 = .ok (.lload 4, 2) := by decide +kernel
theorem dX12_summed_93 : decode cX12_summed 93 = .ok (.l2i, 1) := by decide +kernel
theorem dX12_summed_94 : decode cX12_summed 94 = .ok (.ireturn, 1) := by decide +kernel
theorem e_X12_summed_65 {X : gk_X} {F : Nat} : ∀ (n : Nat) (l4 : Int64) (S : gk_S) (r : (Int32 × gk_S)), f_X12_summed_65 F n l4 S = some r → EvW X m_X12_summed 1 0 0 65 [none, none, none, none, some (.long l4), none, none] [] S (qRI r) := by
  intro n
  induction n with
  | zero => intro l4 S r h0; rw [f_X12_summed_65] at h0; cases h0
  | succ n ih =>
    intro l4 S r h0; rw [f_X12_summed_65] at h0
    refine ev_lload (pc := 65) (i := 4) rfl dX12_summed_65 ?_
    refine ev_ldc2 (pc := 67) (v := 65535) gw_1350 dX12_summed_67 ?_
    refine ev_lcmp (pc := 70)  dX12_summed_70 ?_
    refine ev_if_le (pc := 71) (tgt := 91) (by decide) dX12_summed_71 (fun c3 => ?_) (fun c3 => ?_)
    · replace h0 := qi_t h0 (lc_le c3)
      refine ev_lload (pc := 91) (i := 4) rfl dX12_summed_91 ?_
      refine ev_l2i (pc := 93)  dX12_summed_93 ?_
      exact ev_ireturn (pc := 94) rfl (nar_int _) (qRI_eq h0) dX12_summed_94
    · replace h0 := qi_f h0 (lc_leN c3)
      refine ev_lload (pc := 74) (i := 4) rfl dX12_summed_74 ?_
      refine ev_ldc2 (pc := 76) (v := 65535) gw_1350 dX12_summed_76 ?_
      refine ev_land (pc := 79)  dX12_summed_79 ?_
      refine ev_lload (pc := 80) (i := 4) rfl dX12_summed_80 ?_
      refine ev_bipush (pc := 82) (v := 16) (by decide) dX12_summed_82 ?_
      refine ev_lshr (pc := 84)  dX12_summed_84 ?_
      refine ev_ladd (pc := 85)  dX12_summed_85 ?_
      obtain ⟨x5, e6, h7⟩ := qv_el h0; clear h0
      refine xv_topl e6 ?_
      refine ev_lstore (pc := 86) (L' := [none, none, none, none, some (.long x5), none, none]) (i := 4) (by decide) rfl rfl dX12_summed_86 ?_
      refine ev_goto (pc := 88) (tgt := 65) (by decide) dX12_summed_88 ?_
      exact (ev_weak (qL_n (qL_n (qL_n (qL_n (qL_s (qL_n (qL_n qL_nil))))))) (ih _ _ _ h7))
theorem e_X12_summed_7 {X : gk_X} {F : Nat} : ∀ (n : Nat) (l0 : Nat) (l2 : Int32) (l4 : Int64) (l6 : Int32) (S : gk_S) (r : (Int32 × gk_S)), f_X12_summed_7 F n l0 l2 l4 l6 S = some r → EvW X m_X12_summed 1 0 0 7 [some (.ref l0), none, some (.int l2), none, some (.long l4), none, some (.int l6)] [] S (qRI r) := by
  intro n
  induction n with
  | zero => intro l0 l2 l4 l6 S r h0; rw [f_X12_summed_7] at h0; cases h0
  | succ n ih =>
    intro l0 l2 l4 l6 S r h0; rw [f_X12_summed_7] at h0
    refine ev_iload (pc := 7) (i := 6) rfl dX12_summed_7 ?_
    refine ev_iload_n (pc := 9) (i := 2) rfl rfl dX12_summed_9 ?_
    refine ev_ic_ge (pc := 10) (tgt := 65) (by decide) dX12_summed_10 (fun c1 => ?_) (fun c1 => ?_)
    · replace h0 := qi_t h0 c1
      exact ev_weak (qL_n (qL_n (qL_n (qL_n (qL_s (qL_n (qL_n qL_nil))))))) (e_X12_summed_65 F _ _ _ h0)
    · replace h0 := qi_f h0 c1
      refine ev_lload (pc := 13) (i := 4) rfl dX12_summed_13 ?_
      refine ev_aload_n (pc := 15) (i := 0) rfl rfl rfl dX12_summed_15 ?_
      obtain ⟨g8, h9⟩ := qk_el h0; clear h0
      obtain ⟨b10, e11, h12⟩ := qP_el h9; clear h9
      refine xv_getP (pc := 16) fn_901 (isb_el g8) e11 gw_1141 dX12_summed_16 ?_
      refine ev_iload (pc := 19) (i := 6) rfl dX12_summed_19 ?_
      obtain ⟨g13, h14⟩ := qk_el h12; clear h12
      obtain ⟨g15, h16⟩ := qk_el h14; clear h14
      obtain ⟨x17, e18, h19⟩ := qv_el h16; clear h16
      refine yv_bald (pc := 21) (isb_el g13) (inb_el g15) e18 dX12_summed_21 ?_
      refine ev_sipush (pc := 22) (v := 255) (by decide) dX12_summed_22 ?_
      refine ev_iand (pc := 25)  dX12_summed_25 ?_
      refine ev_bipush (pc := 26) (v := 8) (by decide) dX12_summed_26 ?_
      refine ev_ishl (pc := 28)  dX12_summed_28 ?_
      refine ev_iload (pc := 29) (i := 6) rfl dX12_summed_29 ?_
      refine ev_iconst (pc := 31) (v := 1) (by decide) dX12_summed_31 ?_
      refine ev_iadd (pc := 32)  dX12_summed_32 ?_
      refine ev_iload_n (pc := 33) (i := 2) rfl rfl dX12_summed_33 ?_
      refine ev_ic_ge (pc := 34) (tgt := 53) (by decide) dX12_summed_34 (fun c20 => ?_) (fun c20 => ?_)
      · replace h19 := qi_t h19 c20
        refine ev_iconst (pc := 53) (v := 0) (by decide) dX12_summed_53 ?_
        refine ev_ior (pc := 54)  dX12_summed_54 ?_
        refine ev_i2l (pc := 55)  dX12_summed_55 ?_
        obtain ⟨x22, e23, h24⟩ := qv_el h19; clear h19
        refine xv_topl e23 ?_
        refine ev_ladd (pc := 56)  dX12_summed_56 ?_
        refine ev_lstore (pc := 57) (L' := [some (.ref l0), none, some (.int l2), none, some (.long (l4 + x22)), none, some (.int l6)]) (i := 4) (by decide) rfl rfl dX12_summed_57 ?_
        refine ev_iinc (pc := 59) (L' := [some (.ref l0), none, some (.int l2), none, some (.long (l4 + x22)), none, some (.int (l6 + 2))]) (i := 6) (v := (l6 + 2)) rfl rfl (by decide) rfl rfl dX12_summed_59 ?_
        refine ev_goto (pc := 62) (tgt := 7) (by decide) dX12_summed_62 ?_
        exact (ev_weak (qL_s (qL_n (qL_s (qL_n (qL_s (qL_n (qL_s qL_nil))))))) (ih _ _ _ _ _ _ h24))
      · replace h19 := qi_f h19 c20
        refine ev_aload_n (pc := 37) (i := 0) rfl rfl rfl dX12_summed_37 ?_
        obtain ⟨b25, e26, h27⟩ := qP_el h19; clear h19
        refine xv_getP (pc := 38) fn_901 (isb_el g8) e26 gw_1141 dX12_summed_38 ?_
        refine ev_iload (pc := 41) (i := 6) rfl dX12_summed_41 ?_
        refine ev_iconst (pc := 43) (v := 1) (by decide) dX12_summed_43 ?_
        refine ev_iadd (pc := 44)  dX12_summed_44 ?_
        obtain ⟨g28, h29⟩ := qk_el h27; clear h27
        obtain ⟨g30, h31⟩ := qk_el h29; clear h29
        obtain ⟨x32, e33, h34⟩ := qv_el h31; clear h31
        refine yv_bald (pc := 45) (isb_el g28) (inb_el g30) e33 dX12_summed_45 ?_
        refine ev_sipush (pc := 46) (v := 255) (by decide) dX12_summed_46 ?_
        refine ev_iand (pc := 49)  dX12_summed_49 ?_
        refine ev_goto (pc := 50) (tgt := 54) (by decide) dX12_summed_50 ?_
        refine ev_ior (pc := 54)  dX12_summed_54 ?_
        refine ev_i2l (pc := 55)  dX12_summed_55 ?_
        obtain ⟨x35, e36, h37⟩ := qv_el h34; clear h34
        refine xv_topl e36 ?_
        refine ev_ladd (pc := 56)  dX12_summed_56 ?_
        refine ev_lstore (pc := 57) (L' := [some (.ref l0), none, some (.int l2), none, some (.long (l4 + x35)), none, some (.int l6)]) (i := 4) (by decide) rfl rfl dX12_summed_57 ?_
        refine ev_iinc (pc := 59) (L' := [some (.ref l0), none, some (.int l2), none, some (.long (l4 + x35)), none, some (.int (l6 + 2))]) (i := 6) (v := (l6 + 2)) rfl rfl (by decide) rfl rfl dX12_summed_59 ?_
        refine ev_goto (pc := 62) (tgt := 7) (by decide) dX12_summed_62 ?_
        exact (ev_weak (qL_s (qL_n (qL_s (qL_n (qL_s (qL_n (qL_s qL_nil))))))) (ih _ _ _ _ _ _ h37))
theorem e_X12_summed {X : gk_X} {F : Nat} {S : gk_S} {a : Nat} {p0 : Int32} {p1 : Int32} {p2 : Int32} {r : (Int32 × gk_S)} (h0 : f_X12_summed F S a p0 p1 p2 = some r) : EvM X m_X12_summed 1 0 0 [.ref a, .int p0, .int p1, .int p2] S (qRI r) := by
  unfold f_X12_summed at h0
  refine ev_method (by decide +kernel) rfl rfl (Nat.le_of_ble_eq_true rfl) ?_
  show EvW X m_X12_summed 1 0 0 0 [some (.ref a), some (.int p0), some (.int p1), some (.int p2), none, none, none] [] S _
  refine ev_iload_n (pc := 0) (i := 3) rfl rfl dX12_summed_0 ?_
  refine ev_i2l (pc := 1)  dX12_summed_1 ?_
  refine ev_lstore (pc := 2) (L' := [some (.ref a), some (.int p0), some (.int p1), some (.int p2), some (.long ((p2 : Int32).toInt64)), none, none]) (i := 4) (by decide) rfl rfl dX12_summed_2 ?_
  refine ev_iload_n (pc := 4) (i := 1) rfl rfl dX12_summed_4 ?_
  refine ev_istore (pc := 5) (L' := [some (.ref a), some (.int p0), some (.int p1), some (.int p2), some (.long ((p2 : Int32).toInt64)), none, some (.int p0)]) (i := 6) (by decide) rfl rfl dX12_summed_5 ?_
  exact ev_weak (qL_s (qL_n (qL_s (qL_n (qL_s (qL_n (qL_s qL_nil))))))) (e_X12_summed_7 F _ _ _ _ _ _ h0)
theorem dX12_isLong_0 : decode cX12_isLong 0 = .ok (.iload_n 3, 1) := by decide +kernel
theorem dX12_isLong_1 : decode cX12_isLong 1 = .ok (.iload_n 2, 1) := by decide +kernel
theorem dX12_isLong_2 : decode cX12_isLong 2 = .ok (.isub, 1) := by decide +kernel
theorem dX12_isLong_3 : decode cX12_isLong 3 = .ok (.istore 4, 2) := by decide +kernel
theorem dX12_isLong_5 : decode cX12_isLong 5 = .ok (.iload_n 1, 1) := by decide +kernel
theorem dX12_isLong_6 : decode cX12_isLong 6 = .ok (.bipush 6, 2) := by decide +kernel
theorem dX12_isLong_8 : decode cX12_isLong 8 = .ok (.if_icmp .ne 51, 3) := by decide +kernel
theorem dX12_isLong_11 : decode cX12_isLong 11 = .ok (.iload 4, 2) := by decide +kernel
theorem dX12_isLong_13 : decode cX12_isLong 13 = .ok (.bipush 20, 2) := by decide +kernel
theorem dX12_isLong_15 : decode cX12_isLong 15 = .ok (.if_icmp .ge 5, 3) := by decide +kernel
theorem dX12_isLong_18 : decode cX12_isLong 18 = .ok (.iconst 0, 1) := by decide +kernel
theorem dX12_isLong_19 : decode cX12_isLong 19 = .ok (.ireturn, 1) := by decide +kernel
theorem dX12_isLong_20 : decode cX12_isLong 20 = .ok (.aload_n 0, 1) := by decide +kernel
theorem dX12_isLong_21 : decode cX12_isLong 21 = .ok (.getfield 14, 3) := by decide +kernel
theorem dX12_isLong_24 : decode cX12_isLong 24 = .ok (.iload_n 2, 1) := by decide +kernel
theorem dX12_isLong_25 : decode cX12_isLong 25 = .ok (.bipush 12, 2) := by decide +kernel
theorem dX12_isLong_27 : decode cX12_isLong 27 = .ok (.iadd, 1) := by decide +kernel
theorem dX12_isLong_28 : decode cX12_isLong 28 = .ok (.baload, 1) := by decide +kernel
theorem dX12_isLong_29 : decode cX12_isLong 29 = .ok (.sipush 255, 3) := by decide +kernel
theorem dX12_isLong_32 : decode cX12_isLong 32 = .ok (.iand, 1) := by decide +kernel
theorem dX12_isLong_33 : decode cX12_isLong 33 = .ok (.bipush 16, 2) := by decide +kernel
theorem dX12_isLong_35 : decode cX12_isLong 35 = .ok (.idiv, 1) := by decide +kernel
theorem dX12_isLong_36 : decode cX12_isLong 36 = .ok (.istore 5, 2) := by decide +kernel
theorem dX12_isLong_38 : decode cX12_isLong 38 = .ok (.iload 5, 2) := by decide +kernel
theorem dX12_isLong_40 : decode cX12_isLong 40 = .ok (.iconst 5, 1) := by decide +kernel
theorem dX12_isLong_41 : decode cX12_isLong 41 = .ok (.if_icmp .lt 16, 3) := by decide +kernel
theorem dX12_isLong_44 : decode cX12_isLong 44 = .ok (.iconst 4, 1) := by decide +kernel
theorem dX12_isLong_45 : decode cX12_isLong 45 = .ok (.iload 5, 2) := by decide +kernel
theorem dX12_isLong_47 : decode cX12_isLong 47 = .ok (.imul, 1) := by decide +kernel
theorem dX12_isLong_48 : decode cX12_isLong 48 = .ok (.iload 4, 2) := by decide +kernel
theorem dX12_isLong_50 : decode cX12_isLong 50 = .ok (.if_icmp .gt 7, 3) := by decide +kernel
theorem dX12_isLong_53 : decode cX12_isLong 53 = .ok (.iconst 1, 1) := by decide +kernel
theorem dX12_isLong_54 : decode cX12_isLong 54 = .ok (.goto 4, 3) := by decide +kernel
theorem dX12_isLong_57 : decode cX12_isLong 57 = .ok (.iconst 0, 1) := by decide +kernel
theorem dX12_isLong_58 : decode cX12_isLong 58 = .ok (.ireturn, 1) := by decide +kernel
theorem dX12_isLong_59 : decode cX12_isLong 59 = .ok (.iload_n 1, 1) := by decide +kernel
theorem dX12_isLong_60 : decode cX12_isLong 60 = .ok (.bipush 17, 2) := by decide +kernel
theorem dX12_isLong_62 : decode cX12_isLong 62 = .ok (.if_icmp .ne 28, 3) := by decide +kernel
theorem dX12_isLong_65 : decode cX12_isLong 65 = .ok (.iload 4, 2) := by decide +kernel
theorem dX12_isLong_67 : decode cX12_isLong 67 = .ok (.bipush 8, 2) := by decide +kernel
theorem dX12_isLong_69 : decode cX12_isLong 69 = .ok (.if_icmp .lt 19, 3) := by decide +kernel
theorem dX12_isLong_72 : decode cX12_isLong 72 = .ok (.aload_n 0, 1) := by decide +kernel
theorem dX12_isLong_73 : decode cX12_isLong 73 = .ok (.iload_n 2, 1) := by decide +kernel
theorem dX12_isLong_74 : decode cX12_isLong 74 = .ok (.iconst 4, 1) := by decide +kernel
theorem dX12_isLong_75 : decode cX12_isLong 75 = .ok (.iadd, 1) := by decide +kernel
theorem dX12_isLong_76 : decode cX12_isLong 76 = .ok (.invokevirtual 394, 3) := by decide +kernel
theorem dX12_isLong_79 : decode cX12_isLong 79 = .ok (.iload 4, 2) := by decide +kernel
theorem dX12_isLong_81 : decode cX12_isLong 81 = .ok (.if_icmp .ne 7, 3) := by decide +kernel
theorem dX12_isLong_84 : decode cX12_isLong 84 = .ok (.iconst 1, 1) := by decide +kernel
theorem dX12_isLong_85 : decode cX12_isLong 85 = .ok (.goto 4, 3) := by decide +kernel
theorem dX12_isLong_88 : decode cX12_isLong 88 = .ok (.iconst 0, 1) := by decide +kernel
theorem dX12_isLong_89 : decode cX12_isLong 89 = .ok (.ireturn, 1) := by decide +kernel
theorem dX12_isLong_90 : decode cX12_isLong 90 = .ok (.iload_n 1, 1) := by decide +kernel
theorem dX12_isLong_91 : decode cX12_isLong 91 = .ok (.iconst 1, 1) := by decide +kernel
theorem dX12_isLong_92 : decode cX12_isLong 92 = .ok (.if_icmp .ne 10, 3) := by decide +kernel
theorem dX12_isLong_95 : decode cX12_isLong 95 = .ok (.iload 4, 2) := by decide +kernel
theorem dX12_isLong_97 : decode cX12_isLong 97 = .ok (.bipush 8, 2) := by decide +kernel
theorem dX12_isLong_99 : decode cX12_isLong 99 = .ok (.if_icmp .lt 7, 3) := by decide +kernel
theorem dX12_isLong_102 : decode cX12_isLong 102 = .ok (.iconst 1, 1) := by decide +kernel
theorem dX12_isLong_103 : decode cX12_isLong 103 = .ok (.goto 4, 3) := by decide +kernel
theorem dX12_isLong_106 : decode cX12_isLong 106 = .ok (.iconst 0, 1) := by decide +kernel
theorem dX12_isLong_107 : decode cX12_isLong 107 = .ok (.ireturn, 1) := by decide +kernel
theorem e_X12_isLong {X : gk_X} {F : Nat} {S : gk_S} {a : Nat} {p0 : Int32} {p1 : Int32} {p2 : Int32} {r : (Int32 × gk_S)} (h0 : f_X12_isLong F S a p0 p1 p2 = some r) : EvM X m_X12_isLong 2 0 0 [.ref a, .int p0, .int p1, .int p2] S (qRI r) := by
  unfold f_X12_isLong at h0
  refine ev_method (by decide +kernel) rfl rfl (Nat.le_of_ble_eq_true rfl) ?_
  show EvW X m_X12_isLong 2 0 0 0 [some (.ref a), some (.int p0), some (.int p1), some (.int p2), none, none] [] S _
  refine ev_iload_n (pc := 0) (i := 3) rfl rfl dX12_isLong_0 ?_
  refine ev_iload_n (pc := 1) (i := 2) rfl rfl dX12_isLong_1 ?_
  refine ev_isub (pc := 2)  dX12_isLong_2 ?_
  refine ev_istore (pc := 3) (L' := [some (.ref a), some (.int p0), some (.int p1), some (.int p2), some (.int (p2 - p1)), none]) (i := 4) (by decide) rfl rfl dX12_isLong_3 ?_
  refine ev_iload_n (pc := 5) (i := 1) rfl rfl dX12_isLong_5 ?_
  refine ev_bipush (pc := 6) (v := 6) (by decide) dX12_isLong_6 ?_
  refine ev_ic_ne (pc := 8) (tgt := 59) (by decide) dX12_isLong_8 (fun c1 => ?_) (fun c1 => ?_)
  · replace h0 := qi_f h0 c1
    refine ev_iload_n (pc := 59) (i := 1) rfl rfl dX12_isLong_59 ?_
    refine ev_bipush (pc := 60) (v := 17) (by decide) dX12_isLong_60 ?_
    refine ev_ic_ne (pc := 62) (tgt := 90) (by decide) dX12_isLong_62 (fun c3 => ?_) (fun c3 => ?_)
    · replace h0 := qi_f h0 c3
      refine ev_iload_n (pc := 90) (i := 1) rfl rfl dX12_isLong_90 ?_
      refine ev_iconst (pc := 91) (v := 1) (by decide) dX12_isLong_91 ?_
      refine ev_ic_ne (pc := 92) (tgt := 102) (by decide) dX12_isLong_92 (fun c5 => ?_) (fun c5 => ?_)
      · replace h0 := qi_f h0 c5
        refine ev_iconst (pc := 102) (v := 1) (by decide) dX12_isLong_102 ?_
        refine ev_goto (pc := 103) (tgt := 107) (by decide) dX12_isLong_103 ?_
        exact ev_ireturn (pc := 107) rfl rfl (qRI_eq h0) dX12_isLong_107
      · replace h0 := qi_t h0 c5
        refine ev_iload (pc := 95) (i := 4) rfl dX12_isLong_95 ?_
        refine ev_bipush (pc := 97) (v := 8) (by decide) dX12_isLong_97 ?_
        refine ev_ic_lt (pc := 99) (tgt := 106) (by decide) dX12_isLong_99 (fun c7 => ?_) (fun c7 => ?_)
        · replace h0 := qi_t h0 c7
          refine ev_iconst (pc := 106) (v := 0) (by decide) dX12_isLong_106 ?_
          exact ev_ireturn (pc := 107) rfl rfl (qRI_eq h0) dX12_isLong_107
        · replace h0 := qi_f h0 c7
          refine ev_iconst (pc := 102) (v := 1) (by decide) dX12_isLong_102 ?_
          refine ev_goto (pc := 103) (tgt := 107) (by decide) dX12_isLong_103 ?_
          exact ev_ireturn (pc := 107) rfl rfl (qRI_eq h0) dX12_isLong_107
    · replace h0 := qi_t h0 c3
      refine ev_iload (pc := 65) (i := 4) rfl dX12_isLong_65 ?_
      refine ev_bipush (pc := 67) (v := 8) (by decide) dX12_isLong_67 ?_
      refine ev_ic_lt (pc := 69) (tgt := 88) (by decide) dX12_isLong_69 (fun c9 => ?_) (fun c9 => ?_)
      · replace h0 := qi_t h0 c9
        refine ev_iconst (pc := 88) (v := 0) (by decide) dX12_isLong_88 ?_
        exact ev_ireturn (pc := 89) rfl rfl (qRI_eq h0) dX12_isLong_89
      · replace h0 := qi_f h0 c9
        refine ev_aload_n (pc := 72) (i := 0) rfl rfl rfl dX12_isLong_72 ?_
        refine ev_iload_n (pc := 73) (i := 2) rfl rfl dX12_isLong_73 ?_
        refine ev_iconst (pc := 74) (v := 4) (by decide) dX12_isLong_74 ?_
        refine ev_iadd (pc := 75)  dX12_isLong_75 ?_
        obtain ⟨g11, h12⟩ := qk_el h0; clear h0
        obtain ⟨x13, S14, e15, h16⟩ := qc_el h12; clear h12
        refine xv_callV (pc := 76) (st := []) (as := [.int (p1 + 4)]) (v := (some (.int x13))) (S' := S14) ok_X12_two (e_X12_two e15) (isb_el g11) (by decide) rfl (Nat.le_of_ble_eq_true rfl) rfl gw_1586 dX12_isLong_76 ?_
        refine ev_iload (pc := 79) (i := 4) rfl dX12_isLong_79 ?_
        refine ev_ic_ne (pc := 81) (tgt := 88) (by decide) dX12_isLong_81 (fun c17 => ?_) (fun c17 => ?_)
        · replace h16 := qi_f h16 c17
          refine ev_iconst (pc := 88) (v := 0) (by decide) dX12_isLong_88 ?_
          exact ev_ireturn (pc := 89) rfl rfl (qRI_eq h16) dX12_isLong_89
        · replace h16 := qi_t h16 c17
          refine ev_iconst (pc := 84) (v := 1) (by decide) dX12_isLong_84 ?_
          refine ev_goto (pc := 85) (tgt := 89) (by decide) dX12_isLong_85 ?_
          exact ev_ireturn (pc := 89) rfl rfl (qRI_eq h16) dX12_isLong_89
  · replace h0 := qi_t h0 c1
    refine ev_iload (pc := 11) (i := 4) rfl dX12_isLong_11 ?_
    refine ev_bipush (pc := 13) (v := 20) (by decide) dX12_isLong_13 ?_
    refine ev_ic_ge (pc := 15) (tgt := 20) (by decide) dX12_isLong_15 (fun c19 => ?_) (fun c19 => ?_)
    · replace h0 := qi_t h0 c19
      refine ev_aload_n (pc := 20) (i := 0) rfl rfl rfl dX12_isLong_20 ?_
      obtain ⟨g21, h22⟩ := qk_el h0; clear h0
      obtain ⟨b23, e24, h25⟩ := qP_el h22; clear h22
      refine xv_getP (pc := 21) fn_901 (isb_el g21) e24 gw_1141 dX12_isLong_21 ?_
      refine ev_iload_n (pc := 24) (i := 2) rfl rfl dX12_isLong_24 ?_
      refine ev_bipush (pc := 25) (v := 12) (by decide) dX12_isLong_25 ?_
      refine ev_iadd (pc := 27)  dX12_isLong_27 ?_
      obtain ⟨g26, h27⟩ := qk_el h25; clear h25
      obtain ⟨g28, h29⟩ := qk_el h27; clear h27
      obtain ⟨x30, e31, h32⟩ := qv_el h29; clear h29
      refine yv_bald (pc := 28) (isb_el g26) (inb_el g28) e31 dX12_isLong_28 ?_
      refine ev_sipush (pc := 29) (v := 255) (by decide) dX12_isLong_29 ?_
      refine ev_iand (pc := 32)  dX12_isLong_32 ?_
      refine ev_bipush (pc := 33) (v := 16) (by decide) dX12_isLong_33 ?_
      refine ev_idiv (pc := 35) (by decide) dX12_isLong_35 ?_
      refine ev_istore (pc := 36) (L' := [some (.ref a), some (.int p0), some (.int p1), some (.int p2), some (.int (p2 - p1)), some (.int ((x30 &&& 255) / 16))]) (i := 5) (by decide) rfl rfl dX12_isLong_36 ?_
      refine ev_iload (pc := 38) (i := 5) rfl dX12_isLong_38 ?_
      refine ev_iconst (pc := 40) (v := 5) (by decide) dX12_isLong_40 ?_
      refine ev_ic_lt (pc := 41) (tgt := 57) (by decide) dX12_isLong_41 (fun c33 => ?_) (fun c33 => ?_)
      · replace h32 := qi_t h32 c33
        refine ev_iconst (pc := 57) (v := 0) (by decide) dX12_isLong_57 ?_
        exact ev_ireturn (pc := 58) rfl rfl (qRI_eq h32) dX12_isLong_58
      · replace h32 := qi_f h32 c33
        refine ev_iconst (pc := 44) (v := 4) (by decide) dX12_isLong_44 ?_
        refine ev_iload (pc := 45) (i := 5) rfl dX12_isLong_45 ?_
        refine ev_imul (pc := 47)  dX12_isLong_47 ?_
        refine ev_iload (pc := 48) (i := 4) rfl dX12_isLong_48 ?_
        refine ev_ic_gt (pc := 50) (tgt := 57) (by decide) dX12_isLong_50 (fun c35 => ?_) (fun c35 => ?_)
        · replace h32 := qi_t h32 c35
          refine ev_iconst (pc := 57) (v := 0) (by decide) dX12_isLong_57 ?_
          exact ev_ireturn (pc := 58) rfl rfl (qRI_eq h32) dX12_isLong_58
        · replace h32 := qi_f h32 c35
          refine ev_iconst (pc := 53) (v := 1) (by decide) dX12_isLong_53 ?_
          refine ev_goto (pc := 54) (tgt := 58) (by decide) dX12_isLong_54 ?_
          exact ev_ireturn (pc := 58) rfl rfl (qRI_eq h32) dX12_isLong_58
    · replace h0 := qi_f h0 c19
      refine ev_iconst (pc := 18) (v := 0) (by decide) dX12_isLong_18 ?_
      exact ev_ireturn (pc := 19) rfl rfl (qRI_eq h0) dX12_isLong_19
theorem dX12_address_0 : decode cX12_address 0 = .ok (.aload_n 0, 1) := by decide +kernel
theorem dX12_address_1 : decode cX12_address 1 = .ok (.iload_n 1, 1) := by decide +kernel
theorem dX12_address_2 : decode cX12_address 2 = .ok (.invokevirtual 394, 3) := by decide +kernel
theorem dX12_address_5 : decode cX12_address 5 = .ok (.bipush 16, 2) := by decide +kernel
theorem dX12_address_7 : decode cX12_address 7 = .ok (.ishl, 1) := by decide +kernel
theorem dX12_address_8 : decode cX12_address 8 = .ok (.aload_n 0, 1) := by decide +kernel
theorem dX12_address_9 : decode cX12_address 9 = .ok (.iload_n 1, 1) := by decide +kernel
theorem dX12_address_10 : decode cX12_address 10 = .ok (.iconst 2, 1) := by decide +kernel
theorem dX12_address_11 : decode cX12_address 11 = .ok (.iadd, 1) := by decide +kernel
theorem dX12_address_12 : decode cX12_address 12 = .ok (.invokevirtual 394, 3) := by decide +kernel
theorem dX12_address_15 : decode cX12_address 15 = .ok (.ior, 1) := by decide +kernel
theorem dX12_address_16 : decode cX12_address 16 = .ok (.ireturn, 1) := by decide +kernel
theorem e_X12_address {X : gk_X} {F : Nat} {S : gk_S} {a : Nat} {p0 : Int32} {r : (Int32 × gk_S)} (h0 : f_X12_address F S a p0 = some r) : EvM X m_X12_address 2 0 0 [.ref a, .int p0] S (qRI r) := by
  unfold f_X12_address at h0
  refine ev_method (by decide +kernel) rfl rfl (Nat.le_of_ble_eq_true rfl) ?_
  show EvW X m_X12_address 2 0 0 0 [some (.ref a), some (.int p0)] [] S _
  refine ev_aload_n (pc := 0) (i := 0) rfl rfl rfl dX12_address_0 ?_
  refine ev_iload_n (pc := 1) (i := 1) rfl rfl dX12_address_1 ?_
  obtain ⟨g1, h2⟩ := qk_el h0; clear h0
  obtain ⟨x3, S4, e5, h6⟩ := qc_el h2; clear h2
  refine xv_callV (pc := 2) (st := []) (as := [.int p0]) (v := (some (.int x3))) (S' := S4) ok_X12_two (e_X12_two e5) (isb_el g1) (by decide) rfl (Nat.le_of_ble_eq_true rfl) rfl gw_1586 dX12_address_2 ?_
  refine ev_bipush (pc := 5) (v := 16) (by decide) dX12_address_5 ?_
  refine ev_ishl (pc := 7)  dX12_address_7 ?_
  refine ev_aload_n (pc := 8) (i := 0) rfl rfl rfl dX12_address_8 ?_
  refine ev_iload_n (pc := 9) (i := 1) rfl rfl dX12_address_9 ?_
  refine ev_iconst (pc := 10) (v := 2) (by decide) dX12_address_10 ?_
  refine ev_iadd (pc := 11)  dX12_address_11 ?_
  obtain ⟨g7, h8⟩ := qk_el h6; clear h6
  obtain ⟨x9, S10, e11, h12⟩ := qc_el h8; clear h8
  refine xv_callV (pc := 12) (st := [.int ((x3 : Int32) <<< ((16 : Int32) &&& 31))]) (as := [.int (p0 + 2)]) (v := (some (.int x9))) (S' := S10) ok_X12_two (e_X12_two e11) (isb_el g7) (by decide) rfl (Nat.le_of_ble_eq_true rfl) rfl gw_1586 dX12_address_12 ?_
  refine ev_ior (pc := 15)  dX12_address_15 ?_
  exact ev_ireturn (pc := 16) rfl (nar_int _) (qRI_eq h12) dX12_address_16
theorem dX12_readsTale_0 : decode cX12_readsTale 0 = .ok (.iload_n 2, 1) := by decide +kernel
theorem dX12_readsTale_1 : decode cX12_readsTale 1 = .ok (.iload_n 1, 1) := by decide +kernel
theorem dX12_readsTale_2 : decode cX12_readsTale 2 = .ok (.isub, 1) := by decide +kernel
theorem dX12_readsTale_3 : decode cX12_readsTale 3 = .ok (.bipush 28, 2) := by decide +kernel
theorem dX12_readsTale_5 : decode cX12_readsTale 5 = .ok (.if_icmp .ge 5, 3) := by decide +kernel
theorem dX12_readsTale_8 : decode cX12_readsTale 8 = .ok (.iconst 0, 1) := by decide +kernel
theorem dX12_readsTale_9 : decode cX12_readsTale 9 = .ok (.ireturn, 1) := by decide +kernel
theorem dX12_readsTale_10 : decode cX12_readsTale 10 = .ok (.aload_n 0, 1) := by decide +kernel
theorem dX12_readsTale_11 : decode cX12_readsTale 11 = .ok (.getfield 14, 3) := by decide +kernel
theorem dX12_readsTale_14 : decode cX12_readsTale 14 = .ok (.iload_n 1, 1) := by decide +kernel
theorem dX12_readsTale_15 : decode cX12_readsTale 15 = .ok (.baload, 1) := by decide +kernel
theorem dX12_readsTale_16 : decode cX12_readsTale 16 = .ok (.sipush 255, 3) := by decide +kernel
theorem dX12_readsTale_19 : decode cX12_readsTale 19 = .ok (.iand, 1) := by decide +kernel
theorem dX12_readsTale_20 : decode cX12_readsTale 20 = .ok (.istore_n 3, 1) := by decide +kernel
theorem dX12_readsTale_21 : decode cX12_readsTale 21 = .ok (.iload_n 3, 1) := by decide +kernel
theorem dX12_readsTale_22 : decode cX12_readsTale 22 = .ok (.bipush 69, 2) := by decide +kernel
theorem dX12_readsTale_24 : decode cX12_readsTale 24 = .ok (.if_icmp .lt 9, 3) := by decide +kernel
theorem dX12_readsTale_27 : decode cX12_readsTale 27 = .ok (.iload_n 3, 1) := by decide +kernel
theorem dX12_readsTale_28 : decode cX12_readsTale 28 = .ok (.bipush 79, 2) := by decide +kernel
theorem dX12_readsTale_30 : decode cX12_readsTale 30 = .ok (.if_icmp .le 5, 3) := by decide +kernel
theorem dX12_readsTale_33 : decode cX12_readsTale 33 = .ok (.iconst 0, 1) := by decide +kernel
theorem dX12_readsTale_34 : decode cX12_readsTale 34 = .ok (.ireturn, 1) := by decide +kernel
theorem dX12_readsTale_35 : decode cX12_readsTale 35 = .ok (.iload_n 1, 1) := by decide +kernel
theorem dX12_readsTale_36 : decode cX12_readsTale 36 = .ok (.iconst 4, 1) := by decide +kernel
theorem dX12_readsTale_37 : decode cX12_readsTale 37 = .ok (.iload_n 3, 1) := by decide +kernel
theorem dX12_readsTale_38 : decode cX12_readsTale 38 = .ok (.bipush 64, 2) := by decide +kernel
theorem dX12_readsTale_40 : decode cX12_readsTale 40 = .ok (.isub, 1) := by decide +kernel
theorem dX12_readsTale_41 : decode cX12_readsTale 41 = .ok (.imul, 1) := by decide +kernel
theorem dX12_readsTale_42 : decode cX12_readsTale 42 = .ok (.iadd, 1) := by decide +kernel
theorem dX12_readsTale_43 : decode cX12_readsTale 43 = .ok (.istore 4, 2) := by decide +kernel
theorem dX12_readsTale_45 : decode cX12_readsTale 45 = .ok (.iload_n 2, 1) := by decide +kernel
theorem dX12_readsTale_46 : decode cX12_readsTale 46 = .ok (.iload 4, 2) := by decide +kernel
theorem dX12_readsTale_48 : decode cX12_readsTale 48 = .ok (.isub, 1) := by decide +kernel
theorem dX12_readsTale_49 : decode cX12_readsTale 49 = .ok (.bipush 8, 2) := by decide +kernel
theorem dX12_readsTale_51 : decode cX12_readsTale 51 = .ok (.if_icmp .ge 5, 3) := by decide +kernel
theorem dX12_readsTale_54 : decode cX12_readsTale 54 = .ok (.iconst 0, 1) := by decide +kernel
theorem dX12_readsTale_55 : decode cX12_readsTale 55 = .ok (.ireturn, 1) := by decide +kernel
theorem dX12_readsTale_56 : decode cX12_readsTale 56 = .ok (.aload_n 0, 1) := by decide +kernel
theorem dX12_readsTale_57 : decode cX12_readsTale 57 = .ok (.getfield 14, 3) := by decide +kernel
theorem dX12_readsTale_60 : decode cX12_readsTale 60 = .ok (.iload_n 1, 1) := by decide +kernel
theorem dX12_readsTale_61 : decode cX12_readsTale 61 = .ok (.bipush 9, 2) := by decide +kernel
theorem dX12_readsTale_63 : decode cX12_readsTale 63 = .ok (.iadd, 1) := by decide +kernel
theorem dX12_readsTale_64 : decode cX12_readsTale 64 = .ok (.baload, 1) := by decide +kernel
theorem dX12_readsTale_65 : decode cX12_readsTale 65 = .ok (.sipush 255, 3) := by decide +kernel
theorem dX12_readsTale_68 : decode cX12_readsTale 68 = .ok (.iand, 1) := by decide +kernel
theorem dX12_readsTale_69 : decode cX12_readsTale 69 = .ok (.istore 5, 2) := by decide +kernel
theorem dX12_readsTale_71 : decode cX12_readsTale 71 = .ok (.iload 5, 2) := by decide +kernel
theorem dX12_readsTale_73 : decode cX12_readsTale 73 = .ok (.bipush 6, 2) := by decide +kernel
theorem dX12_readsTale_75 : decode cX12_readsTale 75 = .ok (.if_icmp .eq 10, 3) := by decide +kernel
theorem dX12_readsTale_78 : decode cX12_readsTale 78 = .ok (.iload 5, 2) := by decide +kernel
theorem dX12_readsTale_80 : decode cX12_readsTale 80 = .ok (.bipush 17, 2) := by decide +kernel
theorem dX12_readsTale_82 : decode cX12_readsTale 82 = .ok (.if_icmp .ne 7, 3) := by decide +kernel
theorem dX12_readsTale_85 : decode cX12_readsTale 85 = .ok (.iconst 1, 1) := by decide +kernel
theorem dX12_readsTale_86 : decode cX12_readsTale 86 = .ok (.goto 4, 3) := by decide +kernel
theorem dX12_readsTale_89 : decode cX12_readsTale 89 = .ok (.iconst 0, 1) := by decide +kernel
theorem dX12_readsTale_90 : decode cX12_readsTale 90 = .ok (.istore 6, 2) := by decide +kernel
theorem dX12_readsTale_92 : decode cX12_readsTale 92 = .ok (.iload 5, 2) := by decide +kernel
theorem dX12_readsTale_94 : decode cX12_readsTale 94 = .ok (.iconst 1, 1) := by decide +kernel
theorem dX12_readsTale_95 : decode cX12_readsTale 95 = .ok (.if_icmp .ne 17, 3) := by decide +kernel
theorem dX12_readsTale_98 : decode cX12_readsTale 98 = .ok (.aload_n 0, 1) := by decide +kernel
theorem dX12_readsTale_99 : decode cX12_readsTale 99 = .ok (.getfield 14, 3) := by decide +kernel
theorem dX12_readsTale_102 : decode cX12_readsTale 102 = .ok (.iload 4, 2) := by decide +kernel
theorem dX12_readsTale_104 : decode cX12_readsTale 104 = .ok (.baload, 1) := by decide +kernel
theorem dX12_readsTale_105 : decode cX12_readsTale 105 = .ok (.sipush 255, 3) := by decide +kernel
theorem dX12_readsTale_108 : decode cX12_readsTale 108 = .ok (.iand, 1) := by decide +kernel
theorem dX12_readsTale_109 : decode cX12_readsTale 109 = .ok (.goto 4, 3) := by decide +kernel
theorem dX12_readsTale_112 : decode cX12_readsTale 112 = .ok (.iconst (-1), 1) := by decide +kernel
theorem dX12_readsTale_113 : decode cX12_readsTale 113 = .ok (.istore 7, 2) := by decide +kernel
theorem dX12_readsTale_115 : decode cX12_readsTale 115 = .ok (.aload_n 0, 1) := by decide +kernel
theorem dX12_readsTale_116 : decode cX12_readsTale 116 = .ok (.getfield 96, 3) := by decide +kernel
theorem dX12_readsTale_119 : decode cX12_readsTale 119 = .ok (.iconst 0, 1) := by decide +kernel
theorem dX12_readsTale_120 : decode cX12_readsTale 120 = .ok (.iload 5, 2) := by decide +kernel
theorem dX12_readsTale_122 : decode cX12_readsTale 122 = .ok (.iastore, 1) := by decide +kernel
theorem dX12_readsTale_123 : decode cX12_readsTale 123 = .ok (.aload_n 0, 1) := by decide +kernel
theorem dX12_readsTale_124 : decode cX12_readsTale 124 = .ok (.getfield 96, 3) := by decide +kernel
theorem dX12_readsTale_127 : decode cX12_readsTale 127 = .ok (.iconst 1, 1) := by decide +kernel
theorem dX12_readsTale_128 : decode cX12_readsTale 128 = .ok (.aload_n 0, 1) := by decide +kernel
theorem dX12_readsTale_129 : decode cX12_readsTale 129 = .ok (.iload_n 1, 1) := by decide +kernel
theorem dX12_readsTale_130 : decode cX12_readsTale 130 = .ok (.bipush 12, 2) := by decide +kernel
theorem dX12_readsTale_132 : decode cX12_readsTale 132 = .ok (.iadd, 1) := by decide +kernel
theorem dX12_readsTale_133 : decode cX12_readsTale 133 = .ok (.invokevirtual 409, 3) := by decide +kernel
theorem dX12_readsTale_136 : decode cX12_readsTale 136 = .ok (.iastore, 1) := by decide +kernel
theorem dX12_readsTale_137 : decode cX12_readsTale 137 = .ok (.aload_n 0, 1) := by decide +kernel
theorem dX12_readsTale_138 : decode cX12_readsTale 138 = .ok (.getfield 96, 3) := by decide +kernel
theorem dX12_readsTale_141 : decode cX12_readsTale 141 = .ok (.iconst 2, 1) := by decide +kernel
theorem dX12_readsTale_142 : decode cX12_readsTale 142 = .ok (.aload_n 0, 1) := by decide +kernel
theorem dX12_readsTale_143 : decode cX12_readsTale 143 = .ok (.iload_n 1, 1) := by decide +kernel
theorem dX12_readsTale_144 : decode cX12_readsTale 144 = .ok (.bipush 16, 2) := by decide +kernel
theorem dX12_readsTale_146 : decode cX12_readsTale 146 = .ok (.iadd, 1) := by decide +kernel
theorem dX12_readsTale_147 : decode cX12_readsTale 147 = .ok (.invokevirtual 409, 3) := by decide +kernel
theorem dX12_readsTale_150 : decode cX12_readsTale 150 = .ok (.iastore, 1) := by decide +kernel
theorem dX12_readsTale_151 : decode cX12_readsTale 151 = .ok (.aload_n 0, 1) := by decide +kernel
theorem dX12_readsTale_152 : decode cX12_readsTale 152 = .ok (.getfield 96, 3) := by decide +kernel
theorem dX12_readsTale_155 : decode cX12_readsTale 155 = .ok (.iconst 3, 1) := by decide +kernel
theorem dX12_readsTale_156 : decode cX12_readsTale 156 = .ok (.iload 6, 2) := by decide +kernel
theorem dX12_readsTale_158 : decode cX12_readsTale 158 = .ok (.ifCond .ne 9, 3) := by decide +kernel
theorem dX12_readsTale_161 : decode cX12_readsTale 161 = .ok (.iload 5, 2) := by decide +kernel
theorem dX12_readsTale_163 : decode cX12_readsTale 163 = .ok (.iconst 1, 1) := by decide +kernel
theorem dX12_readsTale_164 : decode cX12_readsTale 164 = .ok (.if_icmp .ne 12, 3) := by decide +kernel
theorem dX12_readsTale_167 : decode cX12_readsTale 167 = .ok (.aload_n 0, 1) := by decide +kernel
theorem dX12_readsTale_168 : decode cX12_readsTale 168 = .ok (.iload 4, 2) := by decide +kernel
theorem dX12_readsTale_170 : decode cX12_readsTale 170 = .ok (.invokevirtual 394, 3) := by decide +kernel
theorem dX12_readsTale_173 : decode cX12_readsTale 173 = .ok (.goto 4, 3) := by decide +kernel
theorem dX12_readsTale_176 : decode cX12_readsTale 176 = .ok (.iconst 0, 1) := by decide +kernel
theorem dX12_readsTale_177 : decode cX12_readsTale 177 = .ok (.iastore, 1) := by decide +kernel
theorem dX12_readsTale_178 : decode cX12_readsTale 178 = .ok (.aload_n 0, 1) := by decide +kernel
theorem dX12_readsTale_179 : decode cX12_readsTale 179 = .ok (.getfield 96, 3) := by decide +kernel
theorem dX12_readsTale_182 : decode cX12_readsTale 182 = .ok (.iconst 4, 1) := by decide +kernel
theorem dX12_readsTale_183 : decode cX12_readsTale 183 = .ok (.iload 6, 2) := by decide +kernel
theorem dX12_readsTale_185 : decode cX12_readsTale 185 = .ok (.ifCond .eq 14, 3) := by decide +kernel
theorem dX12_readsTale_188 : decode cX12_readsTale 188 = .ok (.aload_n 0, 1) := by decide +kernel
theorem dX12_readsTale_189 : decode cX12_readsTale 189 = .ok (.iload 4, 2) := by decide +kernel
theorem dX12_readsTale_191 : decode cX12_readsTale 191 = .ok (.iconst 2, 1) := by decide +kernel
theorem dX12_readsTale_192 : decode cX12_readsTale 192 = .ok (.iadd, 1) := by decide +kernel
theorem dX12_readsTale_193 : decode cX12_readsTale 193 = .ok (.invokevirtual 394, 3) := by decide +kernel
theorem dX12_readsTale_196 : decode cX12_readsTale 196 = .ok (.goto 27, 3) := by decide +kernel
theorem dX12_readsTale_199 : decode cX12_readsTale 199 = .ok (.iload 7, 2) := by decide +kernel
theorem dX12_readsTale_201 : decode cX12_readsTale 201 = .ok (.ifCond .eq 10, 3) := by decide +kernel
theorem dX12_readsTale_204 : decode cX12_readsTale 204 = .ok (.iload 7, 2) := by decide +kernel
theorem dX12_readsTale_206 : decode cX12_readsTale 206 = .ok (.bipush 8, 2) := by decide +kernel
theorem dX12_readsTale_208 : decode cX12_readsTale 208 = .ok (.if_icmp .ne 14, 3) := by decide +kernel
theorem dX12_readsTale_211 : decode cX12_readsTale 211 = .ok (.aload_n 0, 1) := by decide +kernel
theorem dX12_readsTale_212 : decode cX12_readsTale 212 = .ok (.iload 4, 2) := by decide +kernel
theorem dX12_readsTale_214 : decode cX12_readsTale 214 = .ok (.iconst 4, 1) := by decide +kernel
theorem dX12_readsTale_215 : decode cX12_readsTale 215 = .ok (.iadd, 1) := by decide +kernel
theorem dX12_readsTale_216 : decode cX12_readsTale 216 = .ok (.invokevirtual 394, 3) := by decide +kernel
theorem dX12_readsTale_219 : decode cX12_readsTale 219 = .ok (.goto 4, 3) := by decide +kernel
theorem dX12_readsTale_222 : decode cX12_readsTale 222 = .ok (.iconst 0, 1) := by decide +kernel
theorem dX12_readsTale_223 : decode cX12_readsTale 223 = .ok (.iastore, 1) := by decide +kernel
theorem dX12_readsTale_224 : decode cX12_readsTale 224 = .ok (.iconst 1, 1) := by decide +kernel
theorem dX12_readsTale_225 : decode cX12_readsTale 225 = .ok (.ireturn, 1) := by decide +kernel
theorem e_X12_readsTale_211 {X : gk_X} {F : Nat} {l0 : Nat} {l4 : Int32} {s0 : Int32} {s1 : Nat} {S : gk_S} {r : (Int32 × gk_S)} (h0 : f_X12_readsTale_211 F l0 l4 s0 s1 S = some r) : EvW X m_X12_readsTale 3 0 0 211 [some (.ref l0), none, none, none, some (.int l4), none, none, none] [.int s0, .ref s1] S (qRI r) := by
  unfold f_X12_readsTale_211 at h0
  refine ev_aload_n (pc := 211) (i := 0) rfl rfl rfl dX12_readsTale_211 ?_
  refine ev_iload (pc := 212) (i := 4) rfl dX12_readsTale_212 ?_
  refine ev_iconst (pc := 214) (v := 4) (by decide) dX12_readsTale_214 ?_
  refine ev_iadd (pc := 215)  dX12_readsTale_215 ?_
  obtain ⟨g109, h110⟩ := qk_el h0; clear h0
  obtain ⟨x111, S112, e113, h114⟩ := qc_el h110; clear h110
  refine xv_callV (pc := 216) (st := [.int s0, .ref s1]) (as := [.int (l4 + 4)]) (v := (some (.int x111))) (S' := S112) ok_X12_two (e_X12_two e113) (isb_el g109) (by decide) rfl (Nat.le_of_ble_eq_true rfl) rfl gw_1586 dX12_readsTale_216 ?_
  refine ev_goto (pc := 219) (tgt := 223) (by decide) dX12_readsTale_219 ?_
  obtain ⟨g115, h116⟩ := qk_el h114; clear h114
  obtain ⟨g117, h118⟩ := qk_el h116; clear h116
  obtain ⟨S119, e120, h121⟩ := qv_el h118; clear h118
  refine yv_iast (pc := 223) (isb_el g115) (inb_el g117) e120 dX12_readsTale_223 ?_
  refine ev_iconst (pc := 224) (v := 1) (by decide) dX12_readsTale_224 ?_
  exact ev_ireturn (pc := 225) rfl rfl (qRI_eq h121) dX12_readsTale_225
theorem e_X12_readsTale_177 {X : gk_X} {F : Nat} {l0 : Nat} {l4 : Int32} {l6 : Int32} {l7 : Int32} {s0 : Int32} {s1 : Int32} {s2 : Nat} {S : gk_S} {r : (Int32 × gk_S)} (h0 : f_X12_readsTale_177 F l0 l4 l6 l7 s0 s1 s2 S = some r) : EvW X m_X12_readsTale 3 0 0 177 [some (.ref l0), none, none, none, some (.int l4), none, some (.int l6), some (.int l7)] [.int s0, .int s1, .ref s2] S (qRI r) := by
  unfold f_X12_readsTale_177 at h0
  obtain ⟨g93, h94⟩ := qk_el h0; clear h0
  obtain ⟨g95, h96⟩ := qk_el h94; clear h94
  obtain ⟨S97, e98, h99⟩ := qv_el h96; clear h96
  refine yv_iast (pc := 177) (isb_el g93) (inb_el g95) e98 dX12_readsTale_177 ?_
  refine ev_aload_n (pc := 178) (i := 0) rfl rfl rfl dX12_readsTale_178 ?_
  obtain ⟨g100, h101⟩ := qk_el h99; clear h99
  obtain ⟨b102, e103, h104⟩ := qP_el h101; clear h101
  refine xv_getP (pc := 179) fn_940 (isb_el g100) e103 gw_1180 dX12_readsTale_179 ?_
  refine ev_iconst (pc := 182) (v := 4) (by decide) dX12_readsTale_182 ?_
  refine ev_iload (pc := 183) (i := 6) rfl dX12_readsTale_183 ?_
  refine ev_if_eq (pc := 185) (tgt := 199) (by decide) dX12_readsTale_185 (fun c105 => ?_) (fun c105 => ?_)
  · replace h104 := qi_t h104 c105
    refine ev_iload (pc := 199) (i := 7) rfl dX12_readsTale_199 ?_
    refine ev_if_eq (pc := 201) (tgt := 211) (by decide) dX12_readsTale_201 (fun c107 => ?_) (fun c107 => ?_)
    · replace h104 := qi_t h104 c107
      exact ev_weak (qL_s (qL_n (qL_n (qL_n (qL_s (qL_n (qL_n (qL_n qL_nil)))))))) (e_X12_readsTale_211 h104)
    · replace h104 := qi_f h104 c107
      refine ev_iload (pc := 204) (i := 7) rfl dX12_readsTale_204 ?_
      refine ev_bipush (pc := 206) (v := 8) (by decide) dX12_readsTale_206 ?_
      refine ev_ic_ne (pc := 208) (tgt := 222) (by decide) dX12_readsTale_208 (fun c122 => ?_) (fun c122 => ?_)
      · replace h104 := qi_f h104 c122
        refine ev_iconst (pc := 222) (v := 0) (by decide) dX12_readsTale_222 ?_
        obtain ⟨g124, h125⟩ := qk_el h104; clear h104
        obtain ⟨g126, h127⟩ := qk_el h125; clear h125
        obtain ⟨S128, e129, h130⟩ := qv_el h127; clear h127
        refine yv_iast (pc := 223) (isb_el g124) (inb_el g126) e129 dX12_readsTale_223 ?_
        refine ev_iconst (pc := 224) (v := 1) (by decide) dX12_readsTale_224 ?_
        exact ev_ireturn (pc := 225) rfl rfl (qRI_eq h130) dX12_readsTale_225
      · replace h104 := qi_t h104 c122
        exact ev_weak (qL_s (qL_n (qL_n (qL_n (qL_s (qL_n (qL_n (qL_n qL_nil)))))))) (e_X12_readsTale_211 h104)
  · replace h104 := qi_f h104 c105
    refine ev_aload_n (pc := 188) (i := 0) rfl rfl rfl dX12_readsTale_188 ?_
    refine ev_iload (pc := 189) (i := 4) rfl dX12_readsTale_189 ?_
    refine ev_iconst (pc := 191) (v := 2) (by decide) dX12_readsTale_191 ?_
    refine ev_iadd (pc := 192)  dX12_readsTale_192 ?_
    obtain ⟨x131, S132, e133, h134⟩ := qc_el h104; clear h104
    refine xv_callV (pc := 193) (st := [.int 4, .ref b102]) (as := [.int (l4 + 2)]) (v := (some (.int x131))) (S' := S132) ok_X12_two (e_X12_two e133) (isb_el g100) (by decide) rfl (Nat.le_of_ble_eq_true rfl) rfl gw_1586 dX12_readsTale_193 ?_
    refine ev_goto (pc := 196) (tgt := 223) (by decide) dX12_readsTale_196 ?_
    obtain ⟨g135, h136⟩ := qk_el h134; clear h134
    obtain ⟨g137, h138⟩ := qk_el h136; clear h136
    obtain ⟨S139, e140, h141⟩ := qv_el h138; clear h138
    refine yv_iast (pc := 223) (isb_el g135) (inb_el g137) e140 dX12_readsTale_223 ?_
    refine ev_iconst (pc := 224) (v := 1) (by decide) dX12_readsTale_224 ?_
    exact ev_ireturn (pc := 225) rfl rfl (qRI_eq h141) dX12_readsTale_225
theorem e_X12_readsTale_167 {X : gk_X} {F : Nat} {l0 : Nat} {l4 : Int32} {l6 : Int32} {l7 : Int32} {s0 : Int32} {s1 : Nat} {S : gk_S} {r : (Int32 × gk_S)} (h0 : f_X12_readsTale_167 F l0 l4 l6 l7 s0 s1 S = some r) : EvW X m_X12_readsTale 3 0 0 167 [some (.ref l0), none, none, none, some (.int l4), none, some (.int l6), some (.int l7)] [.int s0, .ref s1] S (qRI r) := by
  unfold f_X12_readsTale_167 at h0
  refine ev_aload_n (pc := 167) (i := 0) rfl rfl rfl dX12_readsTale_167 ?_
  refine ev_iload (pc := 168) (i := 4) rfl dX12_readsTale_168 ?_
  obtain ⟨g87, h88⟩ := qk_el h0; clear h0
  obtain ⟨x89, S90, e91, h92⟩ := qc_el h88; clear h88
  refine xv_callV (pc := 170) (st := [.int s0, .ref s1]) (as := [.int l4]) (v := (some (.int x89))) (S' := S90) ok_X12_two (e_X12_two e91) (isb_el g87) (by decide) rfl (Nat.le_of_ble_eq_true rfl) rfl gw_1586 dX12_readsTale_170 ?_
  refine ev_goto (pc := 173) (tgt := 177) (by decide) dX12_readsTale_173 ?_
  exact ev_weak (qL_s (qL_n (qL_n (qL_n (qL_s (qL_n (qL_s (qL_s qL_nil)))))))) (e_X12_readsTale_177 h92)
theorem e_X12_readsTale_113 {X : gk_X} {F : Nat} {l0 : Nat} {l1 : Int32} {l4 : Int32} {l5 : Int32} {l6 : Int32} {s0 : Int32} {S : gk_S} {r : (Int32 × gk_S)} (h0 : f_X12_readsTale_113 F l0 l1 l4 l5 l6 s0 S = some r) : EvW X m_X12_readsTale 3 0 0 113 [some (.ref l0), some (.int l1), none, none, some (.int l4), some (.int l5), some (.int l6), none] [.int s0] S (qRI r) := by
  unfold f_X12_readsTale_113 at h0
  refine ev_istore (pc := 113) (L' := [some (.ref l0), some (.int l1), none, none, some (.int l4), some (.int l5), some (.int l6), some (.int s0)]) (i := 7) (by decide) rfl rfl dX12_readsTale_113 ?_
  refine ev_aload_n (pc := 115) (i := 0) rfl rfl rfl dX12_readsTale_115 ?_
  obtain ⟨g38, h39⟩ := qk_el h0; clear h0
  obtain ⟨b40, e41, h42⟩ := qP_el h39; clear h39
  refine xv_getP (pc := 116) fn_940 (isb_el g38) e41 gw_1180 dX12_readsTale_116 ?_
  refine ev_iconst (pc := 119) (v := 0) (by decide) dX12_readsTale_119 ?_
  refine ev_iload (pc := 120) (i := 5) rfl dX12_readsTale_120 ?_
  obtain ⟨g43, h44⟩ := qk_el h42; clear h42
  obtain ⟨g45, h46⟩ := qk_el h44; clear h44
  obtain ⟨S47, e48, h49⟩ := qv_el h46; clear h46
  refine yv_iast (pc := 122) (isb_el g43) (inb_el g45) e48 dX12_readsTale_122 ?_
  refine ev_aload_n (pc := 123) (i := 0) rfl rfl rfl dX12_readsTale_123 ?_
  obtain ⟨b50, e51, h52⟩ := qP_el h49; clear h49
  refine xv_getP (pc := 124) fn_940 (is_wI (isb_el g38) e48) e51 gw_1180 dX12_readsTale_124 ?_
  refine ev_iconst (pc := 127) (v := 1) (by decide) dX12_readsTale_127 ?_
  refine ev_aload_n (pc := 128) (i := 0) rfl rfl rfl dX12_readsTale_128 ?_
  refine ev_iload_n (pc := 129) (i := 1) rfl rfl dX12_readsTale_129 ?_
  refine ev_bipush (pc := 130) (v := 12) (by decide) dX12_readsTale_130 ?_
  refine ev_iadd (pc := 132)  dX12_readsTale_132 ?_
  obtain ⟨x53, S54, e55, h56⟩ := qc_el h52; clear h52
  refine xv_callV (pc := 133) (st := [.int 1, .ref b50]) (as := [.int (l1 + 12)]) (v := (some (.int x53))) (S' := S54) ok_X12_address (e_X12_address e55) (is_wI (isb_el g38) e48) (by decide) rfl (Nat.le_of_ble_eq_true rfl) rfl gw_1602 dX12_readsTale_133 ?_
  obtain ⟨g57, h58⟩ := qk_el h56; clear h56
  obtain ⟨g59, h60⟩ := qk_el h58; clear h58
  obtain ⟨S61, e62, h63⟩ := qv_el h60; clear h60
  refine yv_iast (pc := 136) (isb_el g57) (inb_el g59) e62 dX12_readsTale_136 ?_
  refine ev_aload_n (pc := 137) (i := 0) rfl rfl rfl dX12_readsTale_137 ?_
  obtain ⟨g64, h65⟩ := qk_el h63; clear h63
  obtain ⟨b66, e67, h68⟩ := qP_el h65; clear h65
  refine xv_getP (pc := 138) fn_940 (isb_el g64) e67 gw_1180 dX12_readsTale_138 ?_
  refine ev_iconst (pc := 141) (v := 2) (by decide) dX12_readsTale_141 ?_
  refine ev_aload_n (pc := 142) (i := 0) rfl rfl rfl dX12_readsTale_142 ?_
  refine ev_iload_n (pc := 143) (i := 1) rfl rfl dX12_readsTale_143 ?_
  refine ev_bipush (pc := 144) (v := 16) (by decide) dX12_readsTale_144 ?_
  refine ev_iadd (pc := 146)  dX12_readsTale_146 ?_
  obtain ⟨x69, S70, e71, h72⟩ := qc_el h68; clear h68
  refine xv_callV (pc := 147) (st := [.int 2, .ref b66]) (as := [.int (l1 + 16)]) (v := (some (.int x69))) (S' := S70) ok_X12_address (e_X12_address e71) (isb_el g64) (by decide) rfl (Nat.le_of_ble_eq_true rfl) rfl gw_1602 dX12_readsTale_147 ?_
  obtain ⟨g73, h74⟩ := qk_el h72; clear h72
  obtain ⟨g75, h76⟩ := qk_el h74; clear h74
  obtain ⟨S77, e78, h79⟩ := qv_el h76; clear h76
  refine yv_iast (pc := 150) (isb_el g73) (inb_el g75) e78 dX12_readsTale_150 ?_
  refine ev_aload_n (pc := 151) (i := 0) rfl rfl rfl dX12_readsTale_151 ?_
  obtain ⟨g80, h81⟩ := qk_el h79; clear h79
  obtain ⟨b82, e83, h84⟩ := qP_el h81; clear h81
  refine xv_getP (pc := 152) fn_940 (isb_el g80) e83 gw_1180 dX12_readsTale_152 ?_
  refine ev_iconst (pc := 155) (v := 3) (by decide) dX12_readsTale_155 ?_
  refine ev_iload (pc := 156) (i := 6) rfl dX12_readsTale_156 ?_
  refine ev_if_ne (pc := 158) (tgt := 167) (by decide) dX12_readsTale_158 (fun c85 => ?_) (fun c85 => ?_)
  · replace h84 := qi_f h84 c85
    exact ev_weak (qL_s (qL_n (qL_n (qL_n (qL_s (qL_n (qL_s (qL_s qL_nil)))))))) (e_X12_readsTale_167 h84)
  · replace h84 := qi_t h84 c85
    refine ev_iload (pc := 161) (i := 5) rfl dX12_readsTale_161 ?_
    refine ev_iconst (pc := 163) (v := 1) (by decide) dX12_readsTale_163 ?_
    refine ev_ic_ne (pc := 164) (tgt := 176) (by decide) dX12_readsTale_164 (fun c142 => ?_) (fun c142 => ?_)
    · replace h84 := qi_f h84 c142
      refine ev_iconst (pc := 176) (v := 0) (by decide) dX12_readsTale_176 ?_
      exact ev_weak (qL_s (qL_n (qL_n (qL_n (qL_s (qL_n (qL_s (qL_s qL_nil)))))))) (e_X12_readsTale_177 h84)
    · replace h84 := qi_t h84 c142
      exact ev_weak (qL_s (qL_n (qL_n (qL_n (qL_s (qL_n (qL_s (qL_s qL_nil)))))))) (e_X12_readsTale_167 h84)
theorem e_X12_readsTale_90 {X : gk_X} {F : Nat} {l0 : Nat} {l1 : Int32} {l4 : Int32} {l5 : Int32} {s0 : Int32} {S : gk_S} {r : (Int32 × gk_S)} (h0 : f_X12_readsTale_90 F l0 l1 l4 l5 s0 S = some r) : EvW X m_X12_readsTale 3 0 0 90 [some (.ref l0), some (.int l1), none, none, some (.int l4), some (.int l5), none, none] [.int s0] S (qRI r) := by
  unfold f_X12_readsTale_90 at h0
  refine ev_istore (pc := 90) (L' := [some (.ref l0), some (.int l1), none, none, some (.int l4), some (.int l5), some (.int s0), none]) (i := 6) (by decide) rfl rfl dX12_readsTale_90 ?_
  refine ev_iload (pc := 92) (i := 5) rfl dX12_readsTale_92 ?_
  refine ev_iconst (pc := 94) (v := 1) (by decide) dX12_readsTale_94 ?_
  refine ev_ic_ne (pc := 95) (tgt := 112) (by decide) dX12_readsTale_95 (fun c36 => ?_) (fun c36 => ?_)
  · replace h0 := qi_f h0 c36
    refine ev_iconst (pc := 112) (v := -1) (by decide) dX12_readsTale_112 ?_
    exact ev_weak (qL_s (qL_s (qL_n (qL_n (qL_s (qL_s (qL_s (qL_n qL_nil)))))))) (e_X12_readsTale_113 h0)
  · replace h0 := qi_t h0 c36
    refine ev_aload_n (pc := 98) (i := 0) rfl rfl rfl dX12_readsTale_98 ?_
    obtain ⟨g144, h145⟩ := qk_el h0; clear h0
    obtain ⟨b146, e147, h148⟩ := qP_el h145; clear h145
    refine xv_getP (pc := 99) fn_901 (isb_el g144) e147 gw_1141 dX12_readsTale_99 ?_
    refine ev_iload (pc := 102) (i := 4) rfl dX12_readsTale_102 ?_
    obtain ⟨g149, h150⟩ := qk_el h148; clear h148
    obtain ⟨g151, h152⟩ := qk_el h150; clear h150
    obtain ⟨x153, e154, h155⟩ := qv_el h152; clear h152
    refine yv_bald (pc := 104) (isb_el g149) (inb_el g151) e154 dX12_readsTale_104 ?_
    refine ev_sipush (pc := 105) (v := 255) (by decide) dX12_readsTale_105 ?_
    refine ev_iand (pc := 108)  dX12_readsTale_108 ?_
    refine ev_goto (pc := 109) (tgt := 113) (by decide) dX12_readsTale_109 ?_
    exact ev_weak (qL_s (qL_s (qL_n (qL_n (qL_s (qL_s (qL_s (qL_n qL_nil)))))))) (e_X12_readsTale_113 h155)
theorem e_X12_readsTale {X : gk_X} {F : Nat} {S : gk_S} {a : Nat} {p0 : Int32} {p1 : Int32} {r : (Int32 × gk_S)} (h0 : f_X12_readsTale F S a p0 p1 = some r) : EvM X m_X12_readsTale 3 0 0 [.ref a, .int p0, .int p1] S (qRI r) := by
  unfold f_X12_readsTale at h0
  refine ev_method (by decide +kernel) rfl rfl (Nat.le_of_ble_eq_true rfl) ?_
  show EvW X m_X12_readsTale 3 0 0 0 [some (.ref a), some (.int p0), some (.int p1), none, none, none, none, none] [] S _
  refine ev_iload_n (pc := 0) (i := 2) rfl rfl dX12_readsTale_0 ?_
  refine ev_iload_n (pc := 1) (i := 1) rfl rfl dX12_readsTale_1 ?_
  refine ev_isub (pc := 2)  dX12_readsTale_2 ?_
  refine ev_bipush (pc := 3) (v := 28) (by decide) dX12_readsTale_3 ?_
  refine ev_ic_ge (pc := 5) (tgt := 10) (by decide) dX12_readsTale_5 (fun c1 => ?_) (fun c1 => ?_)
  · replace h0 := qi_t h0 c1
    refine ev_aload_n (pc := 10) (i := 0) rfl rfl rfl dX12_readsTale_10 ?_
    obtain ⟨g3, h4⟩ := qk_el h0; clear h0
    obtain ⟨b5, e6, h7⟩ := qP_el h4; clear h4
    refine xv_getP (pc := 11) fn_901 (isb_el g3) e6 gw_1141 dX12_readsTale_11 ?_
    refine ev_iload_n (pc := 14) (i := 1) rfl rfl dX12_readsTale_14 ?_
    obtain ⟨g8, h9⟩ := qk_el h7; clear h7
    obtain ⟨g10, h11⟩ := qk_el h9; clear h9
    obtain ⟨x12, e13, h14⟩ := qv_el h11; clear h11
    refine yv_bald (pc := 15) (isb_el g8) (inb_el g10) e13 dX12_readsTale_15 ?_
    refine ev_sipush (pc := 16) (v := 255) (by decide) dX12_readsTale_16 ?_
    refine ev_iand (pc := 19)  dX12_readsTale_19 ?_
    refine ev_istore_n (pc := 20) (L' := [some (.ref a), some (.int p0), some (.int p1), some (.int (x12 &&& 255)), none, none, none, none]) (i := 3) rfl (by decide) rfl rfl dX12_readsTale_20 ?_
    refine ev_iload_n (pc := 21) (i := 3) rfl rfl dX12_readsTale_21 ?_
    refine ev_bipush (pc := 22) (v := 69) (by decide) dX12_readsTale_22 ?_
    refine ev_ic_lt (pc := 24) (tgt := 33) (by decide) dX12_readsTale_24 (fun c15 => ?_) (fun c15 => ?_)
    · replace h14 := qi_t h14 c15
      refine ev_iconst (pc := 33) (v := 0) (by decide) dX12_readsTale_33 ?_
      exact ev_ireturn (pc := 34) rfl rfl (qRI_eq h14) dX12_readsTale_34
    · replace h14 := qi_f h14 c15
      refine ev_iload_n (pc := 27) (i := 3) rfl rfl dX12_readsTale_27 ?_
      refine ev_bipush (pc := 28) (v := 79) (by decide) dX12_readsTale_28 ?_
      refine ev_ic_le (pc := 30) (tgt := 35) (by decide) dX12_readsTale_30 (fun c17 => ?_) (fun c17 => ?_)
      · replace h14 := qi_t h14 c17
        refine ev_iload_n (pc := 35) (i := 1) rfl rfl dX12_readsTale_35 ?_
        refine ev_iconst (pc := 36) (v := 4) (by decide) dX12_readsTale_36 ?_
        refine ev_iload_n (pc := 37) (i := 3) rfl rfl dX12_readsTale_37 ?_
        refine ev_bipush (pc := 38) (v := 64) (by decide) dX12_readsTale_38 ?_
        refine ev_isub (pc := 40)  dX12_readsTale_40 ?_
        refine ev_imul (pc := 41)  dX12_readsTale_41 ?_
        refine ev_iadd (pc := 42)  dX12_readsTale_42 ?_
        obtain ⟨x19, e20, h21⟩ := qv_el h14; clear h14
        refine xv_top e20 ?_
        refine ev_istore (pc := 43) (L' := [some (.ref a), some (.int p0), some (.int p1), some (.int (x12 &&& 255)), some (.int x19), none, none, none]) (i := 4) (by decide) rfl rfl dX12_readsTale_43 ?_
        refine ev_iload_n (pc := 45) (i := 2) rfl rfl dX12_readsTale_45 ?_
        refine ev_iload (pc := 46) (i := 4) rfl dX12_readsTale_46 ?_
        refine ev_isub (pc := 48)  dX12_readsTale_48 ?_
        refine ev_bipush (pc := 49) (v := 8) (by decide) dX12_readsTale_49 ?_
        refine ev_ic_ge (pc := 51) (tgt := 56) (by decide) dX12_readsTale_51 (fun c22 => ?_) (fun c22 => ?_)
        · replace h21 := qi_t h21 c22
          refine ev_aload_n (pc := 56) (i := 0) rfl rfl rfl dX12_readsTale_56 ?_
          obtain ⟨b24, e25, h26⟩ := qP_el h21; clear h21
          refine xv_getP (pc := 57) fn_901 (isb_el g3) e25 gw_1141 dX12_readsTale_57 ?_
          refine ev_iload_n (pc := 60) (i := 1) rfl rfl dX12_readsTale_60 ?_
          refine ev_bipush (pc := 61) (v := 9) (by decide) dX12_readsTale_61 ?_
          refine ev_iadd (pc := 63)  dX12_readsTale_63 ?_
          obtain ⟨g27, h28⟩ := qk_el h26; clear h26
          obtain ⟨g29, h30⟩ := qk_el h28; clear h28
          obtain ⟨x31, e32, h33⟩ := qv_el h30; clear h30
          refine yv_bald (pc := 64) (isb_el g27) (inb_el g29) e32 dX12_readsTale_64 ?_
          refine ev_sipush (pc := 65) (v := 255) (by decide) dX12_readsTale_65 ?_
          refine ev_iand (pc := 68)  dX12_readsTale_68 ?_
          refine ev_istore (pc := 69) (L' := [some (.ref a), some (.int p0), some (.int p1), some (.int (x12 &&& 255)), some (.int x19), some (.int (x31 &&& 255)), none, none]) (i := 5) (by decide) rfl rfl dX12_readsTale_69 ?_
          refine ev_iload (pc := 71) (i := 5) rfl dX12_readsTale_71 ?_
          refine ev_bipush (pc := 73) (v := 6) (by decide) dX12_readsTale_73 ?_
          refine ev_ic_eq (pc := 75) (tgt := 85) (by decide) dX12_readsTale_75 (fun c34 => ?_) (fun c34 => ?_)
          · replace h33 := qi_t h33 c34
            refine ev_iconst (pc := 85) (v := 1) (by decide) dX12_readsTale_85 ?_
            refine ev_goto (pc := 86) (tgt := 90) (by decide) dX12_readsTale_86 ?_
            exact ev_weak (qL_s (qL_s (qL_n (qL_n (qL_s (qL_s (qL_n (qL_n qL_nil)))))))) (e_X12_readsTale_90 h33)
          · replace h33 := qi_f h33 c34
            refine ev_iload (pc := 78) (i := 5) rfl dX12_readsTale_78 ?_
            refine ev_bipush (pc := 80) (v := 17) (by decide) dX12_readsTale_80 ?_
            refine ev_ic_ne (pc := 82) (tgt := 89) (by decide) dX12_readsTale_82 (fun c156 => ?_) (fun c156 => ?_)
            · replace h33 := qi_f h33 c156
              refine ev_iconst (pc := 89) (v := 0) (by decide) dX12_readsTale_89 ?_
              exact ev_weak (qL_s (qL_s (qL_n (qL_n (qL_s (qL_s (qL_n (qL_n qL_nil)))))))) (e_X12_readsTale_90 h33)
            · replace h33 := qi_t h33 c156
              refine ev_iconst (pc := 85) (v := 1) (by decide) dX12_readsTale_85 ?_
              refine ev_goto (pc := 86) (tgt := 90) (by decide) dX12_readsTale_86 ?_
              exact ev_weak (qL_s (qL_s (qL_n (qL_n (qL_s (qL_s (qL_n (qL_n qL_nil)))))))) (e_X12_readsTale_90 h33)
        · replace h21 := qi_f h21 c22
          refine ev_iconst (pc := 54) (v := 0) (by decide) dX12_readsTale_54 ?_
          exact ev_ireturn (pc := 55) rfl rfl (qRI_eq h21) dX12_readsTale_55
      · replace h14 := qi_f h14 c17
        refine ev_iconst (pc := 33) (v := 0) (by decide) dX12_readsTale_33 ?_
        exact ev_ireturn (pc := 34) rfl rfl (qRI_eq h14) dX12_readsTale_34
  · replace h0 := qi_f h0 c1
    refine ev_iconst (pc := 8) (v := 0) (by decide) dX12_readsTale_8 ?_
    exact ev_ireturn (pc := 9) rfl rfl (qRI_eq h0) dX12_readsTale_9
