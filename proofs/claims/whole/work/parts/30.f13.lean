theorem dX11_count_0 : decode cX11_count 0 = .ok (.iload_n 1, 1) := by decide +kernel
theorem dX11_count_1 : decode cX11_count 1 = .ok (.tableswitch 108 0 7 #[47, 55, 63, 71, 79, 87, 92, 100], 47) := by decide +kernel
theorem dX11_count_48 : decode cX11_count 48 = .ok (.aload_n 0, 1) := by decide +kernel
theorem dX11_count_49 : decode cX11_count 49 = .ok (.getfield 14, 3) := by decide +kernel
theorem dX11_count_52 : decode cX11_count 52 = .ok (.getfield 83, 3) := by decide +kernel
theorem dX11_count_55 : decode cX11_count 55 = .ok (.ireturn, 1) := by decide +kernel
theorem dX11_count_56 : decode cX11_count 56 = .ok (.aload_n 0, 1) := by decide +kernel
theorem dX11_count_57 : decode cX11_count 57 = .ok (.getfield 18, 3) := by decide +kernel
theorem dX11_count_60 : decode cX11_count 60 = .ok (.getfield 83, 3) := by decide +kernel
theorem dX11_count_63 : decode cX11_count 63 = .ok (.ireturn, 1) := by decide +kernel
theorem dX11_count_64 : decode cX11_count 64 = .ok (.aload_n 0, 1) := by decide +kernel
theorem dX11_count_65 : decode cX11_count 65 = .ok (.getfield 51, 3) := by decide +kernel
theorem dX11_count_68 : decode cX11_count 68 = .ok (.getfield 237, 3) := by decide +kernel
theorem dX11_count_71 : decode cX11_count 71 = .ok (.ireturn, 1) := by decide +kernel
theorem dX11_count_72 : decode cX11_count 72 = .ok (.aload_n 0, 1) := by decide +kernel
theorem dX11_count_73 : decode cX11_count 73 = .ok (.getfield 51, 3) := by decide +kernel
theorem dX11_count_76 : decode cX11_count 76 = .ok (.getfield 240, 3) := by decide +kernel
theorem dX11_count_79 : decode cX11_count 79 = .ok (.ireturn, 1) := by decide +kernel
theorem dX11_count_80 : decode cX11_count 80 = .ok (.aload_n 0, 1) := by decide +kernel
theorem dX11_count_81 : decode cX11_count 81 = .ok (.getfield 51, 3) := by decide +kernel
theorem dX11_count_84 : decode cX11_count 84 = .ok (.getfield 226, 3) := by decide +kernel
theorem dX11_count_87 : decode cX11_count 87 = .ok (.ireturn, 1) := by decide +kernel
theorem dX11_count_88 : decode cX11_count 88 = .ok (.aload_n 0, 1) := by decide +kernel
theorem dX11_count_89 : decode cX11_count 89 = .ok (.getfield 80, 3) := by decide +kernel
theorem dX11_count_92 : decode cX11_count 92 = .ok (.ireturn, 1) := by decide +kernel
theorem dX11_count_93 : decode cX11_count 93 = .ok (.aload_n 0, 1) := by decide +kernel
theorem dX11_count_94 : decode cX11_count 94 = .ok (.getfield 51, 3) := by decide +kernel
theorem dX11_count_97 : decode cX11_count 97 = .ok (.getfield 243, 3) := by decide +kernel
theorem dX11_count_100 : decode cX11_count 100 = .ok (.ireturn, 1) := by decide +kernel
theorem dX11_count_101 : decode cX11_count 101 = .ok (.aload_n 0, 1) := by decide +kernel
theorem dX11_count_102 : decode cX11_count 102 = .ok (.getfield 51, 3) := by decide +kernel
theorem dX11_count_105 : decode cX11_count 105 = .ok (.getfield 246, 3) := by decide +kernel
theorem dX11_count_108 : decode cX11_count 108 = .ok (.ireturn, 1) := by decide +kernel
theorem dX11_count_109 : decode cX11_count 109 = .ok (.iconst (-1), 1) := by decide +kernel
theorem dX11_count_110 : decode cX11_count 110 = .ok (.ireturn, 1) := by decide +kernel
theorem e_X11_count {X : gk_X} {F : Nat} {S : gk_S} {a : Nat} {p0 : Int32} {r : (Int32 × gk_S)} (h0 : f_X11_count F S a p0 = some r) : EvM X m_X11_count 1 0 0 [.ref a, .int p0] S (qRI r) := by
  unfold f_X11_count at h0
  refine ev_method (by decide +kernel) rfl rfl (Nat.le_of_ble_eq_true rfl) ?_
  show EvW X m_X11_count 1 0 0 0 [some (.ref a), some (.int p0)] [] S _
  refine ev_iload_n (pc := 0) (i := 1) rfl rfl dX11_count_0 ?_
  by_cases c1 : p0 = 0
  · refine ev_tableIn (pc := 1) (off := 47) (tgt := 48) (by rw [c1]; decide) (by rw [c1]; decide) (by rw [c1]; rfl) (by decide) dX11_count_1 ?_
    replace h0 := qi_t h0 c1
    refine ev_aload_n (pc := 48) (i := 0) rfl rfl rfl dX11_count_48 ?_
    obtain ⟨g2, h3⟩ := qk_el h0; clear h0
    obtain ⟨b4, e5, h6⟩ := qP_el h3; clear h3
    refine xv_getP (pc := 49) fn_800 (isb_el g2) e5 gw_282 dX11_count_49 ?_
    obtain ⟨g7, h8⟩ := qk_el h6; clear h6
    obtain ⟨x9, e10, h11⟩ := qv_el h8; clear h8
    refine xv_getIv (pc := 52) fn_101 (isb_el g7) e10 gw_42 dX11_count_52 ?_
    exact ev_ireturn (pc := 55) rfl (nar_int _) (qRI_eq h11) dX11_count_55
  replace h0 := qi_f h0 c1
  by_cases c12 : p0 = 1
  · refine ev_tableIn (pc := 1) (off := 55) (tgt := 56) (by rw [c12]; decide) (by rw [c12]; decide) (by rw [c12]; rfl) (by decide) dX11_count_1 ?_
    replace h0 := qi_t h0 c12
    refine ev_aload_n (pc := 56) (i := 0) rfl rfl rfl dX11_count_56 ?_
    obtain ⟨g13, h14⟩ := qk_el h0; clear h0
    obtain ⟨b15, e16, h17⟩ := qP_el h14; clear h14
    refine xv_getP (pc := 57) fn_801 (isb_el g13) e16 gw_283 dX11_count_57 ?_
    obtain ⟨g18, h19⟩ := qk_el h17; clear h17
    obtain ⟨x20, e21, h22⟩ := qv_el h19; clear h19
    refine xv_getIv (pc := 60) fn_101 (isb_el g18) e21 gw_42 dX11_count_60 ?_
    exact ev_ireturn (pc := 63) rfl (nar_int _) (qRI_eq h22) dX11_count_63
  replace h0 := qi_f h0 c12
  by_cases c23 : p0 = 2
  · refine ev_tableIn (pc := 1) (off := 63) (tgt := 64) (by rw [c23]; decide) (by rw [c23]; decide) (by rw [c23]; rfl) (by decide) dX11_count_1 ?_
    replace h0 := qi_t h0 c23
    refine ev_aload_n (pc := 64) (i := 0) rfl rfl rfl dX11_count_64 ?_
    obtain ⟨g24, h25⟩ := qk_el h0; clear h0
    obtain ⟨b26, e27, h28⟩ := qP_el h25; clear h25
    refine xv_getP (pc := 65) fn_805 (isb_el g24) e27 gw_287 dX11_count_65 ?_
    obtain ⟨g29, h30⟩ := qk_el h28; clear h28
    obtain ⟨x31, e32, h33⟩ := qv_el h30; clear h30
    refine xv_getIv (pc := 68) fn_603 (isb_el g29) e32 gw_243 dX11_count_68 ?_
    exact ev_ireturn (pc := 71) rfl (nar_int _) (qRI_eq h33) dX11_count_71
  replace h0 := qi_f h0 c23
  by_cases c34 : p0 = 3
  · refine ev_tableIn (pc := 1) (off := 71) (tgt := 72) (by rw [c34]; decide) (by rw [c34]; decide) (by rw [c34]; rfl) (by decide) dX11_count_1 ?_
    replace h0 := qi_t h0 c34
    refine ev_aload_n (pc := 72) (i := 0) rfl rfl rfl dX11_count_72 ?_
    obtain ⟨g35, h36⟩ := qk_el h0; clear h0
    obtain ⟨b37, e38, h39⟩ := qP_el h36; clear h36
    refine xv_getP (pc := 73) fn_805 (isb_el g35) e38 gw_287 dX11_count_73 ?_
    obtain ⟨g40, h41⟩ := qk_el h39; clear h39
    obtain ⟨x42, e43, h44⟩ := qv_el h41; clear h41
    refine xv_getIv (pc := 76) fn_602 (isb_el g40) e43 gw_241 dX11_count_76 ?_
    exact ev_ireturn (pc := 79) rfl (nar_int _) (qRI_eq h44) dX11_count_79
  replace h0 := qi_f h0 c34
  by_cases c45 : p0 = 4
  · refine ev_tableIn (pc := 1) (off := 79) (tgt := 80) (by rw [c45]; decide) (by rw [c45]; decide) (by rw [c45]; rfl) (by decide) dX11_count_1 ?_
    replace h0 := qi_t h0 c45
    refine ev_aload_n (pc := 80) (i := 0) rfl rfl rfl dX11_count_80 ?_
    obtain ⟨g46, h47⟩ := qk_el h0; clear h0
    obtain ⟨b48, e49, h50⟩ := qP_el h47; clear h47
    refine xv_getP (pc := 81) fn_805 (isb_el g46) e49 gw_287 dX11_count_81 ?_
    obtain ⟨g51, h52⟩ := qk_el h50; clear h50
    obtain ⟨x53, e54, h55⟩ := qv_el h52; clear h52
    refine xv_getIv (pc := 84) fn_601 (isb_el g51) e54 gw_239 dX11_count_84 ?_
    exact ev_ireturn (pc := 87) rfl (nar_int _) (qRI_eq h55) dX11_count_87
  replace h0 := qi_f h0 c45
  by_cases c56 : p0 = 5
  · refine ev_tableIn (pc := 1) (off := 87) (tgt := 88) (by rw [c56]; decide) (by rw [c56]; decide) (by rw [c56]; rfl) (by decide) dX11_count_1 ?_
    replace h0 := qi_t h0 c56
    refine ev_aload_n (pc := 88) (i := 0) rfl rfl rfl dX11_count_88 ?_
    obtain ⟨g57, h58⟩ := qk_el h0; clear h0
    obtain ⟨x59, e60, h61⟩ := qv_el h58; clear h58
    refine xv_getIv (pc := 89) fn_813 (isb_el g57) e60 gw_295 dX11_count_89 ?_
    exact ev_ireturn (pc := 92) rfl (nar_int _) (qRI_eq h61) dX11_count_92
  replace h0 := qi_f h0 c56
  by_cases c62 : p0 = 6
  · refine ev_tableIn (pc := 1) (off := 92) (tgt := 93) (by rw [c62]; decide) (by rw [c62]; decide) (by rw [c62]; rfl) (by decide) dX11_count_1 ?_
    replace h0 := qi_t h0 c62
    refine ev_aload_n (pc := 93) (i := 0) rfl rfl rfl dX11_count_93 ?_
    obtain ⟨g63, h64⟩ := qk_el h0; clear h0
    obtain ⟨b65, e66, h67⟩ := qP_el h64; clear h64
    refine xv_getP (pc := 94) fn_805 (isb_el g63) e66 gw_287 dX11_count_94 ?_
    obtain ⟨g68, h69⟩ := qk_el h67; clear h67
    obtain ⟨x70, e71, h72⟩ := qv_el h69; clear h69
    refine xv_getIv (pc := 97) fn_604 (isb_el g68) e71 gw_245 dX11_count_97 ?_
    exact ev_ireturn (pc := 100) rfl (nar_int _) (qRI_eq h72) dX11_count_100
  replace h0 := qi_f h0 c62
  by_cases c73 : p0 = 7
  · refine ev_tableIn (pc := 1) (off := 100) (tgt := 101) (by rw [c73]; decide) (by rw [c73]; decide) (by rw [c73]; rfl) (by decide) dX11_count_1 ?_
    replace h0 := qi_t h0 c73
    refine ev_aload_n (pc := 101) (i := 0) rfl rfl rfl dX11_count_101 ?_
    obtain ⟨g74, h75⟩ := qk_el h0; clear h0
    obtain ⟨b76, e77, h78⟩ := qP_el h75; clear h75
    refine xv_getP (pc := 102) fn_805 (isb_el g74) e77 gw_287 dX11_count_102 ?_
    obtain ⟨g79, h80⟩ := qk_el h78; clear h78
    obtain ⟨x81, e82, h83⟩ := qv_el h80; clear h80
    refine xv_getIv (pc := 105) fn_605 (isb_el g79) e82 gw_247 dX11_count_105 ?_
    exact ev_ireturn (pc := 108) rfl (nar_int _) (qRI_eq h83) dX11_count_108
  replace h0 := qi_f h0 c73
  refine ev_tableOut (pc := 1) (tgt := 109) (by have z0 := ti_ne c1 (n := 0) rfl; have z1 := ti_ne c12 (n := 1) rfl; have z2 := ti_ne c23 (n := 2) rfl; have z3 := ti_ne c34 (n := 3) rfl; have z4 := ti_ne c45 (n := 4) rfl; have z5 := ti_ne c56 (n := 5) rfl; have z6 := ti_ne c62 (n := 6) rfl; have z7 := ti_ne c73 (n := 7) rfl; omega) (by decide) dX11_count_1 ?_
  refine ev_iconst (pc := 109) (v := -1) (by decide) dX11_count_109 ?_
  exact ev_ireturn (pc := 110) rfl (nar_int _) (qRI_eq h0) dX11_count_110
theorem dX12_count_0 : decode cX12_count 0 = .ok (.aload_n 0, 1) := by decide +kernel
theorem dX12_count_1 : decode cX12_count 1 = .ok (.iconst 0, 1) := by decide +kernel
theorem dX12_count_2 : decode cX12_count 2 = .ok (.putfield 1, 3) := by decide +kernel
theorem dX12_count_5 : decode cX12_count 5 = .ok (.iload_n 1, 1) := by decide +kernel
theorem dX12_count_6 : decode cX12_count 6 = .ok (.tableswitch 86 0 7 #[46, 51, 56, 61, 66, 71, 76, 81], 46) := by decide +kernel
theorem dX12_count_52 : decode cX12_count 52 = .ok (.aload_n 0, 1) := by decide +kernel
theorem dX12_count_53 : decode cX12_count 53 = .ok (.getfield 7, 3) := by decide +kernel
theorem dX12_count_56 : decode cX12_count 56 = .ok (.ireturn, 1) := by decide +kernel
theorem dX12_count_57 : decode cX12_count 57 = .ok (.aload_n 0, 1) := by decide +kernel
theorem dX12_count_58 : decode cX12_count 58 = .ok (.getfield 225, 3) := by decide +kernel
theorem dX12_count_61 : decode cX12_count 61 = .ok (.ireturn, 1) := by decide +kernel
theorem dX12_count_62 : decode cX12_count 62 = .ok (.aload_n 0, 1) := by decide +kernel
theorem dX12_count_63 : decode cX12_count 63 = .ok (.getfield 343, 3) := by decide +kernel
theorem dX12_count_66 : decode cX12_count 66 = .ok (.ireturn, 1) := by decide +kernel
theorem dX12_count_67 : decode cX12_count 67 = .ok (.aload_n 0, 1) := by decide +kernel
theorem dX12_count_68 : decode cX12_count 68 = .ok (.getfield 90, 3) := by decide +kernel
theorem dX12_count_71 : decode cX12_count 71 = .ok (.ireturn, 1) := by decide +kernel
theorem dX12_count_72 : decode cX12_count 72 = .ok (.aload_n 0, 1) := by decide +kernel
theorem dX12_count_73 : decode cX12_count 73 = .ok (.getfield 340, 3) := by decide +kernel
theorem dX12_count_76 : decode cX12_count 76 = .ok (.ireturn, 1) := by decide +kernel
theorem dX12_count_77 : decode cX12_count 77 = .ok (.aload_n 0, 1) := by decide +kernel
theorem dX12_count_78 : decode cX12_count 78 = .ok (.getfield 363, 3) := by decide +kernel
theorem dX12_count_81 : decode cX12_count 81 = .ok (.ireturn, 1) := by decide +kernel
theorem dX12_count_82 : decode cX12_count 82 = .ok (.aload_n 0, 1) := by decide +kernel
theorem dX12_count_83 : decode cX12_count 83 = .ok (.getfield 391, 3) := by decide +kernel
theorem dX12_count_86 : decode cX12_count 86 = .ok (.ireturn, 1) := by decide +kernel
theorem dX12_count_87 : decode cX12_count 87 = .ok (.aload_n 0, 1) := by decide +kernel
theorem dX12_count_88 : decode cX12_count 88 = .ok (.getfield 384, 3) := by decide +kernel
theorem dX12_count_91 : decode cX12_count 91 = .ok (.ireturn, 1) := by decide +kernel
theorem dX12_count_92 : decode cX12_count 92 = .ok (.iconst (-1), 1) := by decide +kernel
theorem dX12_count_93 : decode cX12_count 93 = .ok (.ireturn, 1) := by decide +kernel
theorem e_X12_count {X : gk_X} {F : Nat} {S : gk_S} {a : Nat} {p0 : Int32} {r : (Int32 × gk_S)} (h0 : f_X12_count F S a p0 = some r) : EvM X m_X12_count 1 0 0 [.ref a, .int p0] S (qRI r) := by
  unfold f_X12_count at h0
  refine ev_method (by decide +kernel) rfl rfl (Nat.le_of_ble_eq_true rfl) ?_
  show EvW X m_X12_count 1 0 0 0 [some (.ref a), some (.int p0)] [] S _
  refine ev_aload_n (pc := 0) (i := 0) rfl rfl rfl dX12_count_0 ?_
  refine ev_iconst (pc := 1) (v := 0) (by decide) dX12_count_1 ?_
  obtain ⟨g1, h2⟩ := qk_el h0; clear h0
  obtain ⟨S3, e4, h5⟩ := qv_el h2; clear h2
  refine yv_putI (pc := 2) fn_900 ⟨rfl, rfl⟩ (isb_el g1) e4 gw_1140 dX12_count_2 ?_
  refine ev_iload_n (pc := 5) (i := 1) rfl rfl dX12_count_5 ?_
  by_cases c6 : p0 = 0
  · refine ev_tableIn (pc := 6) (off := 46) (tgt := 52) (by rw [c6]; decide) (by rw [c6]; decide) (by rw [c6]; rfl) (by decide) dX12_count_6 ?_
    replace h5 := qi_t h5 c6
    refine ev_aload_n (pc := 52) (i := 0) rfl rfl rfl dX12_count_52 ?_
    obtain ⟨x7, e8, h9⟩ := qv_el h5; clear h5
    refine xv_getIv (pc := 53) fn_902 (is_sI (isb_el g1) e4) e8 gw_1142 dX12_count_53 ?_
    exact ev_ireturn (pc := 56) rfl (nar_int _) (qRI_eq h9) dX12_count_56
  replace h5 := qi_f h5 c6
  by_cases c10 : p0 = 1
  · refine ev_tableIn (pc := 6) (off := 51) (tgt := 57) (by rw [c10]; decide) (by rw [c10]; decide) (by rw [c10]; rfl) (by decide) dX12_count_6 ?_
    replace h5 := qi_t h5 c10
    refine ev_aload_n (pc := 57) (i := 0) rfl rfl rfl dX12_count_57 ?_
    obtain ⟨x11, e12, h13⟩ := qv_el h5; clear h5
    refine xv_getIv (pc := 58) fn_921 (is_sI (isb_el g1) e4) e12 gw_1161 dX12_count_58 ?_
    exact ev_ireturn (pc := 61) rfl (nar_int _) (qRI_eq h13) dX12_count_61
  replace h5 := qi_f h5 c10
  by_cases c14 : p0 = 2
  · refine ev_tableIn (pc := 6) (off := 56) (tgt := 62) (by rw [c14]; decide) (by rw [c14]; decide) (by rw [c14]; rfl) (by decide) dX12_count_6 ?_
    replace h5 := qi_t h5 c14
    refine ev_aload_n (pc := 62) (i := 0) rfl rfl rfl dX12_count_62 ?_
    obtain ⟨x15, e16, h17⟩ := qv_el h5; clear h5
    refine xv_getIv (pc := 63) fn_934 (is_sI (isb_el g1) e4) e16 gw_1174 dX12_count_63 ?_
    exact ev_ireturn (pc := 66) rfl (nar_int _) (qRI_eq h17) dX12_count_66
  replace h5 := qi_f h5 c14
  by_cases c18 : p0 = 3
  · refine ev_tableIn (pc := 6) (off := 61) (tgt := 67) (by rw [c18]; decide) (by rw [c18]; decide) (by rw [c18]; rfl) (by decide) dX12_count_6 ?_
    replace h5 := qi_t h5 c18
    refine ev_aload_n (pc := 67) (i := 0) rfl rfl rfl dX12_count_67 ?_
    obtain ⟨x19, e20, h21⟩ := qv_el h5; clear h5
    refine xv_getIv (pc := 68) fn_933 (is_sI (isb_el g1) e4) e20 gw_1173 dX12_count_68 ?_
    exact ev_ireturn (pc := 71) rfl (nar_int _) (qRI_eq h21) dX12_count_71
  replace h5 := qi_f h5 c18
  by_cases c22 : p0 = 4
  · refine ev_tableIn (pc := 6) (off := 66) (tgt := 72) (by rw [c22]; decide) (by rw [c22]; decide) (by rw [c22]; rfl) (by decide) dX12_count_6 ?_
    replace h5 := qi_t h5 c22
    refine ev_aload_n (pc := 72) (i := 0) rfl rfl rfl dX12_count_72 ?_
    obtain ⟨x23, e24, h25⟩ := qv_el h5; clear h5
    refine xv_getIv (pc := 73) fn_932 (is_sI (isb_el g1) e4) e24 gw_1172 dX12_count_73 ?_
    exact ev_ireturn (pc := 76) rfl (nar_int _) (qRI_eq h25) dX12_count_76
  replace h5 := qi_f h5 c22
  by_cases c26 : p0 = 5
  · refine ev_tableIn (pc := 6) (off := 71) (tgt := 77) (by rw [c26]; decide) (by rw [c26]; decide) (by rw [c26]; rfl) (by decide) dX12_count_6 ?_
    replace h5 := qi_t h5 c26
    refine ev_aload_n (pc := 77) (i := 0) rfl rfl rfl dX12_count_77 ?_
    obtain ⟨x27, e28, h29⟩ := qv_el h5; clear h5
    refine xv_getIv (pc := 78) fn_935 (is_sI (isb_el g1) e4) e28 gw_1175 dX12_count_78 ?_
    exact ev_ireturn (pc := 81) rfl (nar_int _) (qRI_eq h29) dX12_count_81
  replace h5 := qi_f h5 c26
  by_cases c30 : p0 = 6
  · refine ev_tableIn (pc := 6) (off := 76) (tgt := 82) (by rw [c30]; decide) (by rw [c30]; decide) (by rw [c30]; rfl) (by decide) dX12_count_6 ?_
    replace h5 := qi_t h5 c30
    refine ev_aload_n (pc := 82) (i := 0) rfl rfl rfl dX12_count_82 ?_
    obtain ⟨x31, e32, h33⟩ := qv_el h5; clear h5
    refine xv_getIv (pc := 83) fn_936 (is_sI (isb_el g1) e4) e32 gw_1176 dX12_count_83 ?_
    exact ev_ireturn (pc := 86) rfl (nar_int _) (qRI_eq h33) dX12_count_86
  replace h5 := qi_f h5 c30
  by_cases c34 : p0 = 7
  · refine ev_tableIn (pc := 6) (off := 81) (tgt := 87) (by rw [c34]; decide) (by rw [c34]; decide) (by rw [c34]; rfl) (by decide) dX12_count_6 ?_
    replace h5 := qi_t h5 c34
    refine ev_aload_n (pc := 87) (i := 0) rfl rfl rfl dX12_count_87 ?_
    obtain ⟨x35, e36, h37⟩ := qv_el h5; clear h5
    refine xv_getIv (pc := 88) fn_937 (is_sI (isb_el g1) e4) e36 gw_1177 dX12_count_88 ?_
    exact ev_ireturn (pc := 91) rfl (nar_int _) (qRI_eq h37) dX12_count_91
  replace h5 := qi_f h5 c34
  refine ev_tableOut (pc := 6) (tgt := 92) (by have z0 := ti_ne c6 (n := 0) rfl; have z1 := ti_ne c10 (n := 1) rfl; have z2 := ti_ne c14 (n := 2) rfl; have z3 := ti_ne c18 (n := 3) rfl; have z4 := ti_ne c22 (n := 4) rfl; have z5 := ti_ne c26 (n := 5) rfl; have z6 := ti_ne c30 (n := 6) rfl; have z7 := ti_ne c34 (n := 7) rfl; omega) (by decide) dX12_count_6 ?_
  refine ev_iconst (pc := 92) (v := -1) (by decide) dX12_count_92 ?_
  exact ev_ireturn (pc := 93) rfl (nar_int _) (qRI_eq h5) dX12_count_93
