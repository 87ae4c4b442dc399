/-! least: the call -/
section CLE
variable {S T : gk_S} {F t : Nat}
theorem c_least (hI : Inv S t) (hF : 16400 ≤ F) (ht : t < 80000) (p q : Int32) : OkT (f_L_least F S 0 p q 372) (fun S1 => f_X12_least F S1 352 p q) (t + 16) := by
  have hI' := Inv_up hI (Nat.le_add_right t 16)
  obtain ⟨h0, -, -, -, -, i5, -, -, ⟨u, hu, se⟩⟩ := id hI
  obtain ⟨R, L, l1, l2, l3, l4, l5, l6⟩ := i5
  rcases ix_cases p (n := 4) (by omega) with hp | ⟨k, hk, rfl⟩
  · refine okT_thr hI' one_ne ?_ ?_
    · unfold f_L_least f_X11_least
      rw [z_i0 h0, qk_true, k_ckl' hp, qx_inr', qh_inr', if_pos rfl]
    · show f_X12_least F (cS S) 352 p q = _
      unfold f_X12_least
      rw [z_i352 (Sh_c h0), qk_true, m_nl' (Sh_c h0) hp, qc_some', if_neg one_ne]
  rcases ix_cases q (n := 4) (by omega) with hp | ⟨l, hl, rfl⟩
  · refine okT_thr hI' one_ne ?_ ?_
    · unfold f_L_least f_X11_least
      rw [z_i0 h0, qk_true, k_ckl hk, qx_inl', k_ckl' hp, qx_inr', qh_inr', if_pos rfl]
    · show f_X12_least F (cS S) 352 (nI k) q = _
      unfold f_X12_least
      rw [z_i352 (Sh_c h0), qk_true, m_nl (Sh_c h0) hk, qc_some', if_pos rfl, z_i352 (Sh_sI (Sh_c h0) _ _ _), qk_true, m_nl' (Sh_sI (Sh_c h0) _ _ _) hp, qc_some', if_neg one_ne, sI_sI]
  obtain ⟨wk, ck, mk⟩ := l5 k hk
  have hrk := l1 k (by omega)
  have hr := l1 4 (by omega)
  have hb := Ba_lt hr
  have nk : R 4 ≠ R k := fun e => by have := l2 4 k (by omega) (by omega) e; omega
  have bk := wk.1
  -- the class
  obtain ⟨T1, m, n1, n2, n3, n4⟩ := k_needed (F := F) hF h0 hrk wk ck se (by omega)
  have h1 := FT_Sh n2 h0
  obtain ⟨mlt, mbits⟩ := NDr_in _ _ _ n4 (lowm_lt bk) (fun i e => by rw [lowm_t] at e; exact of_decide_eq_true e)
  have ck1 := CL_F hrk ck bk n2 (by simp) (by simp)
  obtain ⟨T2, o1, o2, o3, o4, o5⟩ := k_takeO (F := F) hF hr hrk nk bk mlt h1 ck1
  have h2 := DF_Sh o2 h1
  have w1 : WF (R 4) S T1 := WF_F n2 (by decide) (by decide) (by decide) (by decide)
  have w2 : WF (R 4) S T2 := WF_trans w1 (WF_D o2)
  have p1 : gP T1 = gP S := by
    funext f a
    exact n2.2.2.2.2.2.1 f a (by simp)
  have p2 : gP T2 = gP S := o2.2.2.2.2.2.1.trans p1
  have xp1 : xP T1 = xP S := by
    funext a
    exact n2.2.2.2.2.2.2.2.2 a (by simp)
  have xp2 : xP T2 = xP S := o2.2.2.2.2.2.2.2.2.trans xp1
  have se2 : SeU T2 (u + (L k).n) := by
    unfold SeU
    rw [o2.2.2.2.2.1 508 257 (by omega), o2.2.2.2.2.2.2.2.1 278 (by omega)]
    exact n3
  have d1i := inb_n hl (by omega : 4 < 2 ^ 31)
  have a5l : aP T2 5 (nI l) = some (R l) := by unfold aP; rw [nI_clamp (by omega), xp2]; exact l3 l hl
  have p810 : gP T2 810 0 = some (R 4) := by rw [p2]; exact l4
  have g4 : WF (R 4) S (sP (wP T2 5 (nI l) (R 4)) 810 0 (some (R l))) := WF_sP (WF_wP w2 _ _) _ _
  have h4 := WF_Sh g4 h0
  have pd : f_X11_placeDraft F T2 0 (nI l) = some ((), sP (wP T2 5 (nI l) (R 4)) 810 0 (some (R l))) := by
    unfold f_X11_placeDraft
    rw [if_neg (nI_pos (by omega)), if_neg (show ¬ (4 : Int32) ≤ nI l from nI_ge (b := 4) hl (by omega)), z_i0 h2, qk_true, z_p802_0 h2, qP_some', z_i5 h2, qk_true, z_l5 h2, d1i, qk_true, a5l, qP_some', qP_some', p810, qP_some', z_i5 h2, qk_true, z_r h2 hr, qk_true, z_l5 h2, d1i, qk_true, qv_eq, qv_eq]
  have x5 : ∀ j, xP (sP (wP T2 5 (nI l) (R 4)) 810 0 (some (R l))) 5 j = if j = l then some (R 4) else xP S 5 j := by
    intro j
    show xP (wP T2 5 (nI l) (R 4)) 5 j = _
    rw [xP_wP, if_pos rfl, nI_clamp (by omega), xp2]
    rfl
  have b1 : gI (sP (wP T2 5 (nI l) (R 4)) 810 0 (some (R l))) = gI T2 := rfl
  have b2 : xI (sP (wP T2 5 (nI l) (R 4)) 810 0 (some (R l))) = xI T2 := rfl
  have b3 : xJ (sP (wP T2 5 (nI l) (R 4)) 810 0 (some (R l))) = xJ T2 := rfl
  have b5 : gJ (sP (wP T2 5 (nI l) (R 4)) 810 0 (some (R l))) = gJ T2 := rfl
  have b4 : gP (sP (wP T2 5 (nI l) (R 4)) 810 0 (some (R l))) 810 0 = some (R l) := by rw [gP_sP, if_pos ⟨rfl, rfl⟩]
  have kc : f_X11_least F S 0 (nI k) (nI l) = some (.inl (nI (Rk m (L k).n)), sP (wP T2 5 (nI l) (R 4)) 810 0 (some (R l))) := by
    have ak : aP S 5 (nI k) = some (R k) := by unfold aP; rw [nI_clamp (by omega)]; exact l3 k hk
    have aP4 : aP (sP (wP T2 5 (nI l) (R 4)) 810 0 (some (R l))) 5 (nI l) = some (R 4) := by unfold aP; rw [nI_clamp (by omega), x5, if_pos rfl]
    unfold f_X11_least
    rw [k_ckl hk, qx_inl', k_ckl hl, qx_inl', z_i0 h0, qk_true, z_p802_0 h0, qP_some', z_i5 h0, qk_true, z_l5 h0, inb_n hk (by omega), qk_true, ak, qP_some', l4, qP_some', z_p804_0 h0, qP_some', z_i257 h0, qk_true, n1, qc_some', z_r h1 hr, qk_true, o1, qc_some', z_i0 h2, qk_true, pd, qc_some', z_i0 h4, qk_true, z_p802_0 h4, qP_some', z_i5 h4, qk_true, z_l5 h4, d1i, qk_true, aP4, qP_some', z_r h4 hr, qk_true, qv_eq, b1, o3]
  generalize sP (wP T2 5 (nI l) (R 4)) 810 0 (some (R l)) = S4 at g4 h4 x5 b1 b2 b3 b4 b5 kc
  have hX : Sh (wJ S4 372 0 (nI (Rk m (L k).n)).toInt64) := Sh_wJ h4 _ _ _
  have fX : Frm [] [] [] [] [372] [] S4 (wJ S4 372 0 (nI (Rk m (L k).n)).toInt64) := Fr_wJ Fr_refl (by decide) _ _
  have x0 : xJ (wJ S4 372 0 (nI (Rk m (L k).n)).toInt64) 372 0 = (nI (Rk m (L k).n)).toInt64 := by
    rw [show (0 : Int32) = nI 0 from rfl, rw_eq _ _ (by omega), if_pos rfl]
  have a1 : f_L_least F S 0 (nI k) (nI l) 372 = some (0, wJ S4 372 0 (nI (Rk m (L k).n)).toInt64) := by
    unfold f_L_least
    rw [z_i0 h0, qk_true, kc, qh_inl', z_i372 h4, qk_true, z_l372 h4, in0_1, qk_true, qv_eq]
  generalize hS5 : wJ S4 372 0 (nI (Rk m (L k).n)).toInt64 = S5 at hX fX x0 a1
  have xi2 : ∀ a, a ∉ [268, 269, 270, 271, 272, 273, 274, 275, 276, 277] → xI S5 a = xI S a := fun a ha => by
    rw [fX.2.2.2.2.2.2.1 a (by simp), b2, o2.2.2.2.2.2.2.1]
    exact n2.2.2.2.2.2.2.1 a ha
  have xj2 : ∀ a, a ≠ 372 → ¬ (R 4 ≤ a ∧ a < R 4 + 50) → a ∉ [258, 260, 261, 262, 263, 264, 265, 266, 278] → xJ S5 a = xJ S a := fun a q1 q2 q3 => by
    rw [fX.2.2.2.2.2.2.2.1 a (by simp; exact q1), b3, o2.2.2.2.2.2.2.2.1 a q2]
    exact n2.2.2.2.2.2.2.2.1 a q3
  have sml : sML S S5 := ⟨xi2 _ (by decide), xi2 _ (by decide), xi2 _ (by decide), xi2 _ (by decide), xj2 _ (by decide) (by omega) (by decide), xj2 _ (by decide) (by omega) (by decide)⟩
  obtain ⟨T, m', M, v1, v2, v3, v4, v5, v6, v7, v8, v9⟩ := v_least (F := F) hF hX hk hl wk (ML_c mk sml)
  have em : m' = m := NDr_u _ _ _ _ v6 n4
  subst em
  obtain ⟨y1, y2⟩ := o5 M v5
  have wM := Cmp_W wk v5
  have bM := wM.1
  have wX : WF (R 4) S S5 := WF_trans g4 (WF_F fX (by decide) (by decide) (by decide) (by decide))
  have wT : WF (R 4) S T := WF_trans wX (WF_F v2 (by decide) (by decide) (by decide) (by decide))
  have cl5 : CL S5 (R 4) M := CL_F hr (CL_c y1 (congrFun (congrFun b1 _) _) (congrFun (congrFun b1 _) _) (fun i _ => ⟨congrFun (congrFun b1 _) _, congrFun (congrFun b1 _) _, congrFun b3 _, congrFun b3 _⟩)) bM fX (by simp) (by simp)
  have clT : CL T (R 4) M := CL_F hr cl5 bM v2 (by simp) (by simp)
  refine ⟨0, S5, nI M.n, T, a1, v1, v7, fun _ => ?_, ?_⟩
  · rw [v2.2.2.2.2.2.2.2.1 372 (by simp), x0, v5.2.1]
  · refine WF_Inv hI' wT hr ?_ (SeU_F (u := u + (L k).n) (SeU_F (S := S4) ?_ fX (by simp) (by simp)) v2 (by simp) (by simp)) (by omega)
    · refine Ls_place (S := S) (k := l) (L' := M) l1 l2 l6 hl wM clT v4 ?_ (fun i hi => ?_) (fun j hj => ?_) ?_ (fun j hj hjl => ?_) v8 (fun h => ?_)
      · rw [v2.2.2.2.1 403 _ (by simp), fX.2.2.2.1 403 _ (by simp), b1]; exact o4
      · rw [v2.2.2.2.1 304 _ (by simp), fX.2.2.2.1 304 _ (by simp), b1]; exact y2 i hi
      · rw [v2.2.2.2.2.2.2.2.2 5 (by simp), fX.2.2.2.2.2.2.2.2 5 (by simp), x5]
        by_cases c : j = l
        · rw [if_pos c, if_pos c]
        · rw [if_neg c, if_neg c]; exact l3 j hj
      · rw [v2.2.2.2.2.2.1 810 0 (by simp), fX.2.2.2.2.2.1 810 0 (by simp)]; exact b4
      · obtain ⟨q1, q2, q3⟩ := WF_CL wT hr (l1 j (by omega)) (fun e => by have := l2 4 j (by omega) (by omega) e; omega) (l5 j hj).2.1 (l5 j hj).1.1
        exact ⟨(l5 j hj).1, q1, v3 j (L j) hj hjl (l5 j hj).1.1 (ML_c (l5 j hj).2.2 sml), q2, q3⟩
      · rw [v9 h]; exact xi2 360 (by decide)
    · unfold SeU
      rw [b5, b3]
      exact se2
end CLE
