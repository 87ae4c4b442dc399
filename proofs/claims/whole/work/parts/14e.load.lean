/-! load, the call -/
section LOD2
variable {S T : gk_S} {F : Nat}
theorem c_load {t : Nat} (hI : Inv S t) (hF : 16400 ≤ F) (p : Int32) : OkT (f_L_load F S 0 p 372) (fun S1 => f_X12_load F S1 352 p) t := by
  obtain ⟨h0, ⟨m, hm, g1, g2, g3, g4⟩, i2, i3, i4, i5, i6, i7, i8⟩ := id hI
  obtain ⟨R, L, l1, l2, l3, l4, l5, l6⟩ := i5
  rcases ix_cases p (n := 4) (by omega) with hp | ⟨k, hk, rfl⟩
  · refine okT_thr hI one_ne ?_ ?_
    · unfold f_L_load f_X11_load
      rw [z_i0 h0, qk_true, k_ckl' hp, qx_inr', qh_inr', if_pos rfl]
    · show f_X12_load F (cS S) 352 p = _
      have e : f_X12_load_15 F 352 p 1 352 (cS S) = some (0, sI (cS S) 900 352 1) := by
        unfold f_X12_load_15
        rw [z_i352 (Sh_c h0), qk_true, m_ti1 (Sh_c h0), qc_some', if_neg one_ne]
      unfold f_X12_load
      by_cases q : p < 0
      · rw [if_pos q, e]
      · rw [if_neg q, if_neg (show ¬ p ≤ 3 from nge (n := 3) (by omega) (hp.resolve_left q) (by omega)), e]
  have hr := l1 4 (by omega)
  have hb := Ba_lt hr
  have rd0 : RD S (bt (xI S 2)) m := ⟨h0, g1, hm, rfl⟩
  obtain ⟨T1, d1, ks⟩ := k_readS (F := F) hF hr rd0
  have h1 := DF_Sh d1 h0
  have d1' := d1
  obtain ⟨-, -, -, dI, dJ, dP, dX, dY, dZ⟩ := d1'
  -- the class, up to the fault's kind
  have h3 := Sh_sI (Sh_sI h1 101 1 0) 812 0 (gI T1 701 256)
  have gS3 : GF (R 4) S (sI (sI T1 101 1 0) 812 0 (gI T1 701 256)) := GF_sI (GF_sI (GF_D d1) (by decide) _ _) (by decide) _ _
  have e701 : gI (sI T1 101 1 0) 701 256 = gI T1 701 256 := rd_ne _ _ (Or.inl (by decide))
  have a2 : gI (sI (sI T1 101 1 0) 812 0 (gI T1 701 256)) 902 352 = nI m := by
    rw [rd_ne _ _ (Or.inl (by decide)), rd_ne _ _ (Or.inl (by decide)), dI _ _ (by omega) (by omega)]; exact g2
  have a1 : gI (sI (sI T1 101 1 0) 812 0 (gI T1 701 256)) 101 1 = 0 := by
    rw [rd_ne _ _ (Or.inl (by decide))]; exact rd_eq _ _ _ _
  have a3 : gI (sI (sI T1 101 1 0) 812 0 (gI T1 701 256)) 101 3 = gI S 101 3 := by
    rw [rd_ne _ _ (Or.inl (by decide)), rd_ne _ _ (Or.inr (by decide)), dI _ _ (by omega) (by omega)]
  have a8 : gI (sI (sI T1 101 1 0) 812 0 (gI T1 701 256)) 812 0 = gI T1 701 256 := rd_eq _ _ _ _
  have ax : xI (sI (sI T1 101 1 0) 812 0 (gI T1 701 256)) = xI S := dX
  have aP3 : gP (sI (sI T1 101 1 0) 812 0 (gI T1 701 256)) = gP S := dP
  have aX3 : xP (sI (sI T1 101 1 0) 812 0 (gI T1 701 256)) = xP S := dZ
  have a702 : gI (sI (sI T1 101 1 0) 812 0 (gI T1 701 256)) 702 256 = gI T1 702 256 := by rw [rd_ne _ _ (Or.inl (by decide)), rd_ne _ _ (Or.inl (by decide))]
  have aL : ∀ f c, f ≠ 101 → f ≠ 812 → gI (sI (sI T1 101 1 0) 812 0 (gI T1 701 256)) f c = gI T1 f c := fun f c q1 q2 => by rw [rd_ne _ _ (Or.inl q2), rd_ne _ _ (Or.inl q1)]
  have aJ3 : xJ (sI (sI T1 101 1 0) 812 0 (gI T1 701 256)) = xJ T1 := rfl
  have pre : ∀ x17, f_X9_read F S 256 (R 4) = some (x17, T1) → f_X11_load F S 0 (nI k) = (if x17 = (0 : Int32) then (qP (gP (sI (sI T1 101 1 0) 812 0 (gI T1 701 256)) 803 0) fun b65 => qk (isb (sI (sI T1 101 1 0) 812 0 (gI T1 701 256)) b65 7) <| qv (gI (sI (sI T1 101 1 0) 812 0 (gI T1 701 256)) 702 b65) fun x70 => some (.inl ((-1) - x70), (sI (sI T1 101 1 0) 812 0 (gI T1 701 256)))) else qc (f_X11_placeDraft F (sI (sI T1 101 1 0) 812 0 (gI T1 701 256)) 0 (nI k)) fun x44 S45 => qk (isb S45 0 8) <| qP (gP S45 802 0) fun b50 => qk (isb S45 b50 16) <| qk (inb (nI k) (gL S45 b50)) <| qP (aP S45 b50 (nI k)) fun b57 => qk (isb S45 b57 4) <| qv (gI S45 401 b57) fun x62 => some (.inl x62, S45)) := by
    intro x17 er
    unfold f_X11_load
    rw [k_ckl hk, qx_inl', z_i0 h0, qk_true, z_p803_0 h0, qP_some', l4, qP_some', z_i256 h0, qk_true, er, qc_some', z_i0 h1, qk_true, z_p800_0 h1, qP_some', z_i1 h1, qk_true, qv_eq, z_p803_0 (Sh_sI h1 _ _ _), qP_some', z_i256 (Sh_sI h1 _ _ _), qk_true, qv_eq, e701, qv_eq]
  generalize sI (sI T1 101 1 0) 812 0 (gI T1 701 256) = S3 at h3 gS3 a2 a1 a3 a8 ax aP3 aX3 a702 aL aJ3 pre
  -- what goes through in any case
  have done : ∀ (S1 T : gk_S), GF (R 4) S S1 → (∀ r, GF r S1 T) → gI S1 101 1 = 0 → gI S1 101 3 = gI S 101 3 → gI T 101 = gI S1 101 → gI T 902 352 = 0 → gI T 812 0 = gI T 918 352 → Ls T → Inv T t := by
    intro S1 T q1 q2 q3 q4 q5 q6 q7 q8
    have gg := GF_trans q1 (q2 (R 4))
    obtain ⟨r1, r2, r3, r4, r5⟩ := GF_rest gg hr i2 i4 i6 i7 i8 (by rw [q5]; exact q4)
    obtain ⟨-, -, -, y4, y5, y6, y7, y8, y9⟩ := gg
    obtain ⟨f1, f2, f3, f4⟩ := i3
    refine ⟨GF_Sh (GF_trans q1 (q2 (R 4))) h0, ⟨0, by omega, by rw [q5]; exact q3, q6, ?_, ?_⟩, r1, ⟨q7, ?_, ?_, ?_⟩, r2, q8, r3, r4, r5⟩
    · rw [y7 353 (by omega), y7 2 (by omega)]; exact g3
    · rw [y7 2 (by omega)]; exact g4
    · rw [y4 _ _ (by decide) (by omega), y4 _ _ (by decide) (by omega)]; exact f2
    · rw [y4 _ _ (by decide) (by omega)]; exact f3
    · rw [y8 _ (by decide) (by decide) (by decide) (by omega), y8 _ (by decide) (by decide) (by decide) (by omega)]; exact f4
  have bte : bt (xI S 353) = bt (xI S 2) := by rw [g3]
  have b8e : ∀ i, b8 (xI S 353 i) = xI S 353 i := by rw [g3]; exact g4
  rcases ks with ⟨κ, pl, k1, k2, k3, k4, k5, k6⟩ | ⟨B, k1, k2, k3, k4, k5, k6⟩
  · -- a fault
    have kc : f_X11_load F S 0 (nI k) = some (.inl ((-1) - nI pl), S3) := by
      rw [pre 0 k4, if_pos rfl, z_p803_0 h3, qP_some', z_i256 h3, qk_true, qv_eq, a702, k6]
    have hX : Sh (wJ S3 372 0 ((-1) - nI pl).toInt64) := Sh_wJ h3 _ _ _
    have gX : GF (R 4) S (wJ S3 372 0 ((-1) - nI pl).toInt64) := GF_o gS3 _ _
    rcases v_load (F := F) (m := m) (b := bt (xI S 2)) (k := k) hF hX a2 hm (by show bt (xI S3 353) = _; rw [ax]; exact bte) (by show ∀ i, b8 (xI S3 353 i) = xI S3 353 i; rw [ax]; exact b8e) (Wd_c i4 (by show xI S3 361 = _; rw [ax]) (by show xI S3 362 = _; rw [ax])) hk with ⟨T, κ', pl', v1, v2, v3, v4, v5, v6, v7, v8, v9, v10, v11, v12, v13⟩ | ⟨T, B, v1, v2, -⟩
    · have ee := k1.symm.trans v2
      injection ee with ee
      injection ee with e1 e2
      subst e1
      subst e2
      refine ⟨0, wJ S3 372 0 ((-1) - nI pl).toInt64, (-1) - nI pl, T, ?_, v1, v4, fun _ => ?_, ?_⟩
      · unfold f_L_load
        rw [z_i0 h0, qk_true, kc, qh_inl', z_i372 h3, qk_true, z_l372 h3, in0_1, qk_true, qv_eq]
      · rw [v11]; exact rw_eq S3 372 (i := 0) (by omega) _ 0
      · refine done _ T gX v3 a1 a3 v9 v5 ?_ ?_
        · rw [v10, v6]
          show gI S3 812 0 = _
          rw [a8, k5]
        · have gT := GF_trans gX (v3 (R 4))
          have tel : ∀ j, j < 4 → CL T (R j) (L j) ∧ gI T 403 (R j) = gI S 403 (R j) ∧ ∀ i, i < (L j).n → gI T 304 (ru (R j) i) = gI S 304 (ru (R j) i) := fun j hj => GF_CL gT hr (l1 j (by omega)) (fun e => by have := l2 4 j (by omega) (by omega) e; omega) (l5 j hj).2.1 (l5 j hj).1.1
          refine ⟨R, L, l1, l2, fun j hj => ?_, ?_, fun j hj => ⟨(l5 j hj).1, (tel j hj).1, ?_⟩, fun j hj => ?_⟩
          · rw [v13]
            show xP S3 5 j = _
            rw [aX3]; exact l3 j hj
          · rw [v12]
            show gP S3 810 0 = _
            rw [aP3]; exact l4
          · refine v7 j (L j) hj (l5 j hj).1.1 (ML_c (l5 j hj).2.2 ⟨?_, ?_, ?_, ?_, ?_, ?_⟩)
            · show xI S3 354 = _; rw [ax]
            · show xI S3 355 = _; rw [ax]
            · show xI S3 356 = _; rw [ax]
            · show xI S3 357 = _; rw [ax]
            · rw [rw_ne _ _ _ _ (by decide), aJ3]; exact dY _ (by omega)
            · rw [rw_ne _ _ _ _ (by decide), aJ3]; exact dY _ (by omega)
          · have x0 : xI T 360 = xI S 360 := by
              rw [v8]
              show xI S3 360 = _
              rw [ax]
            rw [x0]
            obtain ⟨-, t1, t2⟩ := tel j hj
            exact ⟨t1.trans (l6 j hj).1, fun i hi => (t2 i hi).trans ((l6 j hj).2 i hi)⟩
    · exact absurd (k1.symm.trans v2) (by simp)
  · -- a list
    have d1i := inb_n hk (by omega : 4 < 2 ^ 31)
    have a5k : aP S3 5 (nI k) = some (R k) := by unfold aP; rw [nI_clamp (by omega), aX3]; exact l3 k hk
    have p810 : gP S3 810 0 = some (R 4) := by rw [aP3]; exact l4
    have g4 : GF (R 4) S (sP (wP S3 5 (nI k) (R 4)) 810 0 (some (R k))) := GF_sP (GF_wP gS3 _ _) _ _
    have h4 := GF_Sh g4 h0
    have pd : f_X11_placeDraft F S3 0 (nI k) = some ((), sP (wP S3 5 (nI k) (R 4)) 810 0 (some (R k))) := by
      unfold f_X11_placeDraft
      rw [if_neg (nI_pos (by omega)), if_neg (show ¬ (4 : Int32) ≤ nI k from nI_ge (b := 4) hk (by omega)), z_i0 h3, qk_true, z_p802_0 h3, qP_some', z_i5 h3, qk_true, z_l5 h3, d1i, qk_true, a5k, qP_some', qP_some', p810, qP_some', z_i5 h3, qk_true, z_r h3 hr, qk_true, z_l5 h3, d1i, qk_true, qv_eq, qv_eq]
    have x5 : ∀ j, xP (sP (wP S3 5 (nI k) (R 4)) 810 0 (some (R k))) 5 j = if j = k then some (R 4) else xP S 5 j := by
      intro j
      show xP (wP S3 5 (nI k) (R 4)) 5 j = _
      rw [xP_wP, if_pos rfl, nI_clamp (by omega), aX3]
      show (if j = k then some (R 4) else xP S 5 j) = _
      rfl
    have b1 : gI (sP (wP S3 5 (nI k) (R 4)) 810 0 (some (R k))) = gI S3 := rfl
    have b2 : xI (sP (wP S3 5 (nI k) (R 4)) 810 0 (some (R k))) = xI S := ax
    have b3 : xJ (sP (wP S3 5 (nI k) (R 4)) 810 0 (some (R k))) = xJ T1 := aJ3
    have b4 : gP (sP (wP S3 5 (nI k) (R 4)) 810 0 (some (R k))) 810 0 = some (R k) := by rw [gP_sP, if_pos ⟨rfl, rfl⟩]
    have n401 : gI S3 401 (R 4) = nI B.L.n := by rw [aL _ _ (by decide) (by decide)]; exact k3.2.2.2.2.2.1
    have kc : f_X11_load F S 0 (nI k) = some (.inl (nI B.L.n), sP (wP S3 5 (nI k) (R 4)) 810 0 (some (R k))) := by
      have aP4 : aP (sP (wP S3 5 (nI k) (R 4)) 810 0 (some (R k))) 5 (nI k) = some (R 4) := by unfold aP; rw [nI_clamp (by omega), x5, if_pos rfl]
      rw [pre 1 k2, if_neg one_ne, pd, qc_some', z_i0 h4, qk_true, z_p802_0 h4, qP_some', z_i5 h4, qk_true, z_l5 h4, d1i, qk_true, aP4, qP_some', z_r h4 hr, qk_true, qv_eq, b1, n401]
    generalize sP (wP S3 5 (nI k) (R 4)) 810 0 (some (R k)) = S4 at g4 h4 x5 b1 b2 b3 b4 kc
    have hX : Sh (wJ S4 372 0 (nI B.L.n).toInt64) := Sh_wJ h4 _ _ _
    have gX : GF (R 4) S (wJ S4 372 0 (nI B.L.n).toInt64) := GF_o g4 _ _
    rcases v_load (F := F) (m := m) (b := bt (xI S 2)) (k := k) hF hX (by show gI S4 902 352 = _; rw [b1]; exact a2) hm (by show bt (xI S4 353) = _; rw [b2]; exact bte) (by show ∀ i, b8 (xI S4 353 i) = xI S4 353 i; rw [b2]; exact b8e) (Wd_c i4 (by show xI S4 361 = _; rw [b2]) (by show xI S4 362 = _; rw [b2])) hk with ⟨T, κ', pl', v1, v2, -⟩ | ⟨T, B', v1, v2, v3, v4, v5, v6, v7, v8, v9, v10, v11, v12, v13, v14, v15⟩
    · exact absurd (k1.symm.trans v2) (by simp)
    · have ee := k1.symm.trans v2
      injection ee with ee
      subst ee
      have n16 := k4.2.2.1
      refine ⟨0, wJ S4 372 0 (nI B.L.n).toInt64, nI B.L.n, T, ?_, v1, v4, fun _ => ?_, ?_⟩
      · unfold f_L_load
        rw [z_i0 h0, qk_true, kc, qh_inl', z_i372 h4, qk_true, z_l372 h4, in0_1, qk_true, qv_eq]
      · rw [v13]; exact rw_eq S4 372 (i := 0) (by omega) _ 0
      · refine done _ T gX v3 (by show gI S4 101 1 = 0; rw [b1]; exact a1) (by show gI S4 101 3 = _; rw [b1]; exact a3) v11 v5 ?_ ?_
        · rw [v12, v6]
          show gI S4 812 0 = _
          rw [b1, a8, k6]
        · have gT := GF_trans gX (v3 (R 4))
          have nk : R k ≠ R 4 := fun e => by have := l2 k 4 (by omega) (by omega) e; omega
          have cl1 : CL (wJ S4 372 0 (nI B.L.n).toInt64) (R 4) B.L := by
            obtain ⟨q1, q2, q3, q4, q5⟩ := k3.2.2.2.2.2
            have gi : ∀ f c, f ≠ 101 → f ≠ 812 → gI (wJ S4 372 0 (nI B.L.n).toInt64) f c = gI T1 f c := fun f c p1 p2 => by
              show gI S4 f c = _
              rw [b1]; exact aL f c p1 p2
            have xj : ∀ c, c < 256 → xJ (wJ S4 372 0 (nI B.L.n).toInt64) c = xJ T1 c := fun c hc => by rw [rw_ne _ _ _ _ (by omega), b3]
            refine ⟨(gi _ _ (by decide) (by decide)).trans q1, (gi _ _ (by decide) (by decide)).trans q2, fun i hi => CR_c (q4 i hi).1 ⟨gi _ _ (by decide) (by decide), gi _ _ (by decide) (by decide), xj _ ?_, xj _ ?_⟩⟩
            · have := ru_lt hr (show i < 16 by omega); omega
            · have := ru_lt hr (show i < 16 by omega); omega
          obtain ⟨c1, c2, c3⟩ := GF_CL (v3 (R k)) (l1 k (by omega)) hr nk cl1 n16
          have tz : gI (wJ S4 372 0 (nI B.L.n).toInt64) 403 (R 4) = 0 ∧ ∀ i, i < B.L.n → gI (wJ S4 372 0 (nI B.L.n).toInt64) 304 (ru (R 4) i) = 0 := by
            obtain ⟨q1, q2, q3, q4, q5⟩ := k3.2.2.2.2.2
            have gi : ∀ f c, f ≠ 101 → f ≠ 812 → gI (wJ S4 372 0 (nI B.L.n).toInt64) f c = gI T1 f c := fun f c p1 p2 => by
              show gI S4 f c = _
              rw [b1]; exact aL f c p1 p2
            exact ⟨(gi _ _ (by decide) (by decide)).trans q3, fun i hi => (gi _ _ (by decide) (by decide)).trans (q4 i hi).2⟩
          refine Ls_place (S := S) (k := k) (L' := B.L) l1 l2 l6 hk ⟨n16, k4.2.2.2.1, k4.2.2.2.2.1⟩ c1 v7 (c2.trans tz.1) (fun i hi => (c3 i hi).trans (tz.2 i hi)) (fun j hj => ?_) ?_ (fun j hj hjk => ?_) v9 (fun q => ?_)
          · rw [v15]
            show xP S4 5 j = _
            rw [x5 j]
            by_cases c : j = k
            · rw [if_pos c, if_pos c]
            · rw [if_neg c, if_neg c]; exact l3 j hj
          · rw [v14]; exact b4
          · obtain ⟨o1, o2, o3⟩ := GF_CL gT hr (l1 j (by omega)) (fun e => by have := l2 4 j (by omega) (by omega) e; omega) (l5 j hj).2.1 (l5 j hj).1.1
            refine ⟨(l5 j hj).1, o1, v8 j (L j) hj hjk (l5 j hj).1.1 (ML_c (l5 j hj).2.2 ⟨?_, ?_, ?_, ?_, ?_, ?_⟩), o2, o3⟩
            · show xI S4 354 = _; rw [b2]
            · show xI S4 355 = _; rw [b2]
            · show xI S4 356 = _; rw [b2]
            · show xI S4 357 = _; rw [b2]
            · rw [rw_ne _ _ _ _ (by decide), b3]; exact dY _ (by omega)
            · rw [rw_ne _ _ _ _ (by decide), b3]; exact dY _ (by omega)
          · rw [v10 q]
            show xI S4 360 = _
            rw [b2]
end LOD2
