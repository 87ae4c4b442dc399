/-! shadowed -/
section SHD
variable {S T : gk_S} {F t u : Nat}
theorem c_shadowed (hI : Inv S t) (hF : 16400 ≤ F) (ht : t < 90000) (p q : Int32) : OkT (f_L_shadowed F S 0 p q 372) (fun S1 => f_X12_shadowed F S1 352 p q) (t + 1) := by
  have hI' := Inv_up hI (Nat.le_add_right t 1)
  obtain ⟨h0, -, -, -, -, i5, -, -, ⟨u, hu, se⟩⟩ := id hI
  obtain ⟨R, L, l1, l2, l3, l4, l5, l6⟩ := i5
  rcases ix_cases p (n := 4) (by omega) with hp | ⟨k, hk, rfl⟩
  · refine okT_thr hI' one_ne ?_ ?_
    · unfold f_L_shadowed f_X11_shadowed
      rw [z_i0 h0, qk_true, k_ckl' hp, qx_inr', qh_inr', if_pos rfl]
    · show f_X12_shadowed F (cS S) 352 p q = _
      unfold f_X12_shadowed
      rw [z_i352 (Sh_c h0), qk_true, m_nl' (Sh_c h0) hp, qc_some', if_neg one_ne]
  obtain ⟨wk, ck, mk⟩ := l5 k hk
  have hrk := l1 k (by omega)
  have bk := wk.1
  have ak : aP S 5 (nI k) = some (R k) := by unfold aP; rw [nI_clamp (by omega)]; exact l3 k hk
  rcases ix_cases q (n := (L k).n) (by omega) with hp | ⟨i, hi, rfl⟩
  · refine okT_thr hI' two_ne ?_ ?_
    · unfold f_L_shadowed f_X11_shadowed
      rw [z_i0 h0, qk_true, k_ckl hk, qx_inl', z_i0 h0, qk_true, z_p802_0 h0, qP_some', z_i5 h0, qk_true, z_l5 h0, inb_n hk (by omega), qk_true, ak, qP_some', k_rul' h0 hrk ck.1 hp, qx_inr', qh_inr', if_neg xEA, if_pos rfl]
    · show f_X12_shadowed F (cS S) 352 (nI k) q = _
      have g2 := Sh_sI (Sh_c h0) 900 352 0
      have e : f_X12_shadowed_28 F 352 (nI k) q 1 352 (sI (cS S) 900 352 0) = some (0, sI (cS S) 900 352 2) := by
        unfold f_X12_shadowed_28
        rw [z_i352 g2, qk_true, m_ti1 g2, qc_some', if_neg one_ne, sI_sI]
      have e1 : aI (sI (cS S) 900 352 0) 355 (nI k) = nI (L k).n := by unfold aI; rw [nI_clamp (by omega)]; exact mk.1
      unfold f_X12_shadowed
      rw [z_i352 (Sh_c h0), qk_true, m_nl (Sh_c h0) hk, qc_some', if_pos rfl]
      by_cases q0 : q < 0
      · rw [if_pos q0, e]
      · rw [if_neg q0, z_i352 g2, qk_true, z_p906_352 g2, qP_some', z_i355 g2, qk_true, z_l355 g2, inb_n (show k < 6 by omega) (by omega), qk_true, e1, qv_eq, if_neg (Int32.not_lt.mpr (hp.resolve_left q0)), e]
  -- the class
  have cls : ∃ z T, f_X11_shadowed F S 0 (nI k) (nI i) = some (.inl (bI (!z)), T) ∧ FA S T ∧ SeU T (u + 1) ∧ KP (Dm (some i) (L k) (L k) 0 (lowm i) 0) S T 811 0 351 z ∧ gI T 925 = gI S 925 ∧ xJ T 365 = xJ S 365 := by
    obtain ⟨z, T, q1, q2, q3, q4, q5⟩ := k_reach (F := F) hF h0 hrk wk ck se (by omega) hi
    have hT := FT_Sh q2 h0
    obtain ⟨T', r1, r2, r3, r4, r5, r6⟩ := k_endK (F := F) hF hT q2 q4 q5 q3
    refine ⟨z, T', ?_, r2, r3, r4, r5, r6⟩
    rw [← r1]
    unfold f_X11_shadowed
    rw [k_ckl hk, qx_inl', z_i0 h0, qk_true, z_p802_0 h0, qP_some', z_i5 h0, qk_true, z_l5 h0, inb_n hk (by omega), qk_true, ak, qP_some', k_rul h0 hrk ck.1 bk hi, qx_inl', z_i0 h0, qk_true, z_p804_0 h0, qP_some', z_p802_0 h0, qP_some', z_i5 h0, qk_true, z_l5 h0, inb_n hk (by omega), qk_true, ak, qP_some', z_i257 h0, qk_true, q1, qc_some']
  obtain ⟨z, T, c1, c2, c3, c4, c5, c6⟩ := cls
  have hT := FA_Sh c2 h0
  have a1 : f_L_shadowed F S 0 (nI k) (nI i) 372 = some (0, wJ T 372 0 (bI (!z)).toInt64) := by
    unfold f_L_shadowed
    rw [z_i0 h0, qk_true, c1, l_end hT]
  have g1 : Sh (wJ T 372 0 (bI (!z)).toInt64) := Sh_wJ hT _ _ _
  have g2 := Sh_sI g1 900 352 0
  have e16 : 16 * nI k + nI i = nI (16 * k + i) := by rw [show (16 : Int32) = nI 16 from rfl, pk_mul, nI_add]
  have g5 : Sh (sI (sI (sI (sI (wJ T 372 0 (bI (!z)).toInt64) 900 352 0) 926 352 (nI k)) 927 352 (nI k)) 930 352 (nI (16 * k + i))) := Sh_sI (Sh_sI (Sh_sI g2 _ _ _) _ _ _) _ _ _
  have f2 : Frm [900, 926, 927, 930] [] [] [] [372] [] T (sI (sI (sI (sI (wJ T 372 0 (bI (!z)).toInt64) 900 352 0) 926 352 (nI k)) 927 352 (nI k)) 930 352 (nI (16 * k + i))) := Fr_sI (Fr_sI (Fr_sI (Fr_sI (Fr_wJ Fr_refl (by decide) _ _) (by decide) _ _) (by decide) _ _) (by decide) _ _) (by decide) _ _
  have x1 : gI (sI (sI (sI (sI (wJ T 372 0 (bI (!z)).toInt64) 900 352 0) 926 352 (nI k)) 927 352 (nI k)) 930 352 (nI (16 * k + i))) 900 352 = 0 := by
    rw [rd_ne _ _ (Or.inl (by decide)), rd_ne _ _ (Or.inl (by decide)), rd_ne _ _ (Or.inl (by decide))]; exact rd_eq _ _ _ _
  have x2 : gI (sI (sI (sI (sI (wJ T 372 0 (bI (!z)).toInt64) 900 352 0) 926 352 (nI k)) 927 352 (nI k)) 930 352 (nI (16 * k + i))) 926 352 = nI k := by
    rw [rd_ne _ _ (Or.inl (by decide)), rd_ne _ _ (Or.inl (by decide))]; exact rd_eq _ _ _ _
  have x3 : gI (sI (sI (sI (sI (wJ T 372 0 (bI (!z)).toInt64) 900 352 0) 926 352 (nI k)) 927 352 (nI k)) 930 352 (nI (16 * k + i))) 927 352 = nI k := by
    rw [rd_ne _ _ (Or.inl (by decide))]; exact rd_eq _ _ _ _
  have x4 : gI (sI (sI (sI (sI (wJ T 372 0 (bI (!z)).toInt64) 900 352 0) 926 352 (nI k)) 927 352 (nI k)) 930 352 (nI (16 * k + i))) 930 352 = nI (16 * k + i) := rd_eq _ _ _ _
  have x5 : xJ (sI (sI (sI (sI (wJ T 372 0 (bI (!z)).toInt64) 900 352 0) 926 352 (nI k)) 927 352 (nI k)) 930 352 (nI (16 * k + i))) 372 0 = (bI (!z)).toInt64 := by
    show xJ (wJ T 372 0 (bI (!z)).toInt64) 372 0 = _
    rw [show (0 : Int32) = nI 0 from rfl, rw_eq _ _ (by omega), if_pos rfl]
  have x6 : aI (sI (wJ T 372 0 (bI (!z)).toInt64) 900 352 0) 355 (nI k) = nI (L k).n := by
    unfold aI
    rw [nI_clamp (by omega)]
    show xI T 355 k = _
    rw [c2.2.2.2.2.2.2.1 355 (by simp)]
    exact mk.1
  have b1 : ∀ X, f_X12_looks F (sI (sI (sI (sI (wJ T 372 0 (bI (!z)).toInt64) 900 352 0) 926 352 (nI k)) 927 352 (nI k)) 930 352 (nI (16 * k + i))) 352 (nI (lowm i)) 0 = some X → f_X12_shadowed F (wJ T 372 0 (bI (!z)).toInt64) 352 (nI k) (nI i) = if X.1 = 0 then some (1, X.2) else some (0, X.2) := by
    intro X hX
    have p1 := Nat.two_pow_pos i
    have s1 : (1 : Int32) <<< (nI i &&& 31) - 1 = nI (lowm i) := by
      rw [shl_1 _ (by omega), show (1 : Int32) = nI 1 from rfl, pk_sub (by omega)]; rfl
    unfold f_X12_shadowed
    rw [z_i352 g1, qk_true, m_nl g1 hk, qc_some', if_pos rfl, if_neg (show ¬ nI i < 0 from nI_pos (by omega)), z_i352 g2, qk_true, z_p906_352 g2, qP_some', z_i355 g2, qk_true, z_l355 g2, inb_n (show k < 6 by omega) (by omega), qk_true, x6, qv_eq, if_pos (show nI i < nI (L k).n from nI_lt hi (by omega))]
    unfold f_X12_shadowed_28
    rw [z_i352 g2, qk_true, m_ti0 g2, qc_some', if_pos rfl, sI_sI, z_i352 g2, qk_true, qv_eq, qv_eq, e16, qv_eq, s1, hX, qc_some']
  generalize sI (sI (sI (sI (wJ T 372 0 (bI (!z)).toInt64) 900 352 0) 926 352 (nI k)) 927 352 (nI k)) 930 352 (nI (16 * k + i)) = S3 at g5 f2 x1 x2 x3 x4 x5 b1
  have fs : FA S S3 := Fr_trans c2 (Fr_mono f2 (by simp) (by simp) (by simp) (by simp) (by simp) (by simp))
  have sml : sML S S3 := ⟨fs.2.2.2.2.2.2.1 _ (by simp), fs.2.2.2.2.2.2.1 _ (by simp), fs.2.2.2.2.2.2.1 _ (by simp), fs.2.2.2.2.2.2.1 _ (by simp), fs.2.2.2.2.2.2.2.1 _ (by simp), fs.2.2.2.2.2.2.2.1 _ (by simp)⟩
  have mk3 := ML_c mk sml
  have sm : SM S3 k k (L k) (L k) (some i) := ⟨g5, by omega, by omega, x2, x3, (fun e => by cases e), (fun j e => by cases e; exact ⟨x4, hi⟩), mk3, mk3, wk, wk⟩
  obtain ⟨z', T2, v1, v2, v3, v4⟩ := v_looks (F := F) (a := lowm i) (b := 0) hF sm ⟨lowm_lt (by omega), fun j e => by rw [lowm_t] at e; have := of_decide_eq_true e; omega⟩ ⟨by omega, fun j e => by rw [Nat.zero_testBit] at e; exact absurd e (by decide)⟩ (fun _ => rfl)
  have b2 := b1 (bI z', T2) v1
  obtain ⟨ez, y1, y2, y3⟩ := m_end hI c2 c3 (by omega) c4 c5 c6 f2 v2 x1 x5 ⟨v3, v4⟩
  subst ez
  refine ⟨0, _, bI (!z), T2, a1, ?_, y2, fun _ => y3, y1⟩
  show f_X12_shadowed F _ 352 (nI k) (nI i) = _
  rw [b2]
  cases z
  · exact if_pos rfl
  · exact if_neg (show ¬ bI true = 0 by decide)
end SHD
