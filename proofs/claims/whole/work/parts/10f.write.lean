/-! write, the call -/
section WRT2
variable {S T : gk_S} {F : Nat}
theorem c_write {t : Nat} (hI : Inv S t) (hF : 16400 ≤ F) (p : Int32) : OkT (f_L_write F S 0 p 372) (fun S1 => f_X12_write F S1 352 p) t := by
  obtain ⟨h0, i1, ⟨m, hm, g1, g2, g3⟩, i3, i4, i5, i6, i7, i8⟩ := id hI
  obtain ⟨R, LL, lc, lt9⟩ := Ls_el i5
  obtain ⟨R', L, l1, l2, l3, l4, l5, l6⟩ := i5
  rcases ix_cases p (n := 4) (by omega) with hp | ⟨k, hk, rfl⟩
  · refine okT_thr hI one_ne ?_ ?_
    · unfold f_L_write f_X11_write
      rw [z_i0 h0, qk_true, k_ckl' hp, qx_inr', qh_inr', if_pos rfl]
    · show f_X12_write F (cS S) 352 p = _
      unfold f_X12_write
      rw [z_i352 (Sh_c h0), qk_true, m_nl' (Sh_c h0) hp, qc_some', if_neg one_ne]
  obtain ⟨wl, cl, ml⟩ := l5 k hk
  have hr := l1 k (by omega)
  have cn : ∀ l, gI (CW S (xI S 4) l) 101 3 = nI l.length := fun l => rd_eq _ _ _ _
  have hc := k_write (F := F) h0 hF hk hr cl wl (l3 k hk)
  have tl := (k_put (F := F) (g := xI S 4) h0 hF hr cl wl).2
  generalize hL : lt (L k) = X at hc tl
  generalize hv : nI X.length = v at hc
  have Hc : Sh (wJ (CW S (xI S 4) X) 372 0 v.toInt64) := Sh_wJ (Sh_CW h0 _ _) _ _ _
  have HX := Sh_sI Hc 900 352 0
  have eM : sI (sI (wJ (CW S (xI S 4) X) 372 0 v.toInt64) 900 352 0) 921 352 0 = MW (sI (wJ (CW S (xI S 4) X) 372 0 v.toInt64) 900 352 0) (xI S 4) [] := by
    unfold MW
    rw [wr_nil, rI_id _ 363 (show xI (sI (wJ (CW S (xI S 4) X) 372 0 v.toInt64) 900 352 0) 363 = xI S 4 from g3)]
    rfl
  have F3 : Frm [101, 900] [] [] [4] [372] [] S (sI (wJ (CW S (xI S 4) X) 372 0 v.toInt64) 900 352 0) := Fr_sI (Fr_wJ (Fr_sI (Fr_rI Fr_refl (by decide) _) (by decide) _ _) (by decide) _ _) (by decide) _ _
  have w4 : Wd (sI (wJ (CW S (xI S 4) X) 372 0 v.toInt64) 900 352 0) := Fr_Wd F3 i4 (by decide)
  have m4 : ML (sI (wJ (CW S (xI S 4) X) 372 0 v.toInt64) 900 352 0) k (L k) := ML_c ml ⟨F3.2.2.2.2.2.2.1 354 (by decide), F3.2.2.2.2.2.2.1 355 (by decide), F3.2.2.2.2.2.2.1 356 (by decide), F3.2.2.2.2.2.2.1 357 (by decide), F3.2.2.2.2.2.2.2.1 358 (by decide), F3.2.2.2.2.2.2.2.1 359 (by decide)⟩
  refine ⟨0, wJ (CW S (xI S 4) X) 372 0 v.toInt64, v, MW (sI (wJ (CW S (xI S 4) X) 372 0 v.toInt64) 900 352 0) (xI S 4) X, ?_, ?_, ?_, fun _ => ?_, ?_⟩
  · unfold f_L_write
    rw [z_i0 h0, qk_true, hc, qh_inl', z_i372 (Sh_CW h0 _ _), qk_true, z_l372 (Sh_CW h0 _ _), in0_1, qk_true, qv_eq]
  · show f_X12_write F (wJ (CW S (xI S 4) X) 372 0 v.toInt64) 352 (nI k) = _
    have vw := v_write (F := F) (g := xI S 4) Hc hF hk rfl HX w4 m4 wl eM
    rw [hL, hv] at vw
    exact vw
  · unfold MW
    rw [rd_ne _ _ (Or.inl (by decide))]
    show gI (sI (wJ (CW S (xI S 4) X) 372 0 v.toInt64) 900 352 0) 900 352 = 0
    rw [rd_eq]
  · rfl
  · have F4 : Frm [101, 900, 921] [] [] [4, 363] [372] [] S (MW (sI (wJ (CW S (xI S 4) X) 372 0 v.toInt64) 900 352 0) (xI S 4) X) := Fr_sI (Fr_rI (Fr_sI (Fr_wJ (Fr_sI (Fr_rI Fr_refl (by decide) _) (by decide) _ _) (by decide) _ _) (by decide) _ _) (by decide) _) (by decide) _ _
    have e101 : ∀ a, gI (MW (sI (wJ (CW S (xI S 4) X) 372 0 v.toInt64) 900 352 0) (xI S 4) X) 101 a = gI (CW S (xI S 4) X) 101 a := by
      intro a
      unfold MW
      rw [rd_ne _ _ (Or.inl (by decide))]
      show gI (sI (wJ (CW S (xI S 4) X) 372 0 v.toInt64) 900 352 0) 101 a = _
      rw [rd_ne _ _ (Or.inl (by decide)), gI_wJ]
    have e921 : gI (MW (sI (wJ (CW S (xI S 4) X) 372 0 v.toInt64) 900 352 0) (xI S 4) X) 921 352 = nI X.length := rd_eq _ _ _ _
    have x4 : xI (MW (sI (wJ (CW S (xI S 4) X) 372 0 v.toInt64) 900 352 0) (xI S 4) X) 4 = wr (xI S 4) X := rfl
    have x363 : xI (MW (sI (wJ (CW S (xI S 4) X) 372 0 v.toInt64) 900 352 0) (xI S 4) X) 363 = wr (xI S 4) X := rfl
    generalize MW (sI (wJ (CW S (xI S 4) X) 372 0 v.toInt64) 900 352 0) (xI S 4) X = T at F4 e101 e921 x4 x363
    refine ⟨Fr_Sh F4 h0 (by decide) (by decide), Tp_c i1 ?_ (F4.2.2.2.1 902 352 (by decide)) (F4.2.2.2.2.2.2.1 353 (by decide)) (F4.2.2.2.2.2.2.1 2 (by decide)), ⟨X.length, by omega, by rw [e101, cn], e921, by rw [x4, x363]⟩, Fr_Fnd F4 i3 (by decide), Fr_Wd F4 i4 (by decide), Ls_in (Fr_LsC F4 lc (by decide) (by decide) (by decide) (by decide) (by decide)) (Fr_LsT F4 lt9 (by decide) (by decide)), Fr_Tb F4 i6 (by decide) (by decide) (by decide) (by decide), Fr_Lp F4 i7 (by decide), Fr_Se F4 i8 (by decide)⟩
    rw [e101]
    unfold CW oc
    rw [rd_ne _ _ (Or.inr (by decide))]
    rfl
end WRT2
