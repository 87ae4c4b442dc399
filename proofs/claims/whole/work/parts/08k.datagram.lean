theorem dg_bad {S : gk_S} (h : Sh S) {F : Nat} {p : Int32} (hb : bad p 4) : f_X12_datagram F S 352 p = some (0, sI S 900 352 1) := by
  have m3 : f_X12_isNone F S p 3 = some (1, S) := m_no1 (n := 3) (by omega) hb
  unfold f_X12_datagram
  rw [m3, qc_some', z_i352 h, qk_true, m_ti1 h, qc_some', if_neg one_ne]
theorem pg_WP (g : Nat → Int32) (q : Nat) : WP (pg g q) := by
  have b9 := bt_lt g (q + 9)
  have wa := fun i => wd_lt g i
  refine ⟨by show 0 ≤ 3; omega, by show bt g (q + 9) ≤ 255; omega, ?_, ?_, ?_, ?_, by show 0 ≤ 63; omega⟩
  · show pga g (q + 12) ≤ 4294967295
    have := wa (q + 12); have := wa (q + 12 + 2); unfold pga; omega
  · show pga g (q + 16) ≤ 4294967295
    have := wa (q + 16); have := wa (q + 16 + 2); unfold pga; omega
  · show pgs g q ≤ 65535
    have := wa (pgt g q)
    unfold pgs
    split <;> omega
  · show pgd g q ≤ 65535
    have := wa (pgt g q + 2); have := wa (pgt g q + 4)
    unfold pgd
    repeat' split
    all_goals omega
/-- the datagram's packet -/
def dpk (g : Nat → Int32) (w0 : Nat) : Nat → Nat := fun f => if f = 0 then w0 else if f = 6 then dfl g else pg g 0 f
theorem dpk_WP (g : Nat → Int32) {w0 : Nat} (h : w0 ≤ 3) : WP (dpk g w0) := by
  have p := pg_WP g 0
  refine ⟨h, p.2.1, p.2.2.1, p.2.2.2.1, p.2.2.2.2.1, p.2.2.2.2.2.1, ?_⟩
  show dfl g ≤ 63
  unfold dfl
  split <;> omega
theorem k_dgH {S : gk_S} {F m : Nat} {g : Nat → Int32} (tg : TG S g m) (hF : 16400 ≤ F) {w0 : Nat} (hw0 : w0 < 4) (f0 : flt g m ≠ 0) : f_X11_datagram F S 0 (nI w0) = some (.inl ((-1) - nI (fpl g m)), sI (sI S 812 0 (nI (flt g m))) 101 1 0) := by
  have h0 := tg.1
  have t0 : gk_tops (0 : Int32).toNatClampNeg = lN 3 := rfl
  have ok := ok_l (n := 3) (by omega) hw0
  have kf := k_fault (F := F) (TG_CO tg) hF tg.2.2.2
  have fl := flt_lt g m
  have zf : nI (flt g m) = 0 ↔ flt g m = 0 := nI_eq (b := 0) (by omega) (by omega)
  have H1 := Sh_sI h0 812 0 (nI (flt g m))
  have e812 : gI (sI S 812 0 (nI (flt g m))) 812 0 = nI (flt g m) := rd_eq _ _ _ _
  have tg1 := TG_sI tg (f := 812) (by decide) 0 (nI (flt g m))
  unfold f_X11_datagram
  rw [if_neg ok.1, t0, if_pos ok.2.2.1, z_i0 h0, qk_true, z_p800_0 h0, qP_some', kf, qc_some', z_i0 h0, qk_true, qv_eq, qv_eq, e812, if_neg (fun e => f0 (zf.mp e)), qv_eq, z_p800_0 H1, qP_some', k_fplace (TG_CO tg1) tg.2.2.2 f0, qc_some', z_i0 H1, qk_true, z_p800_0 H1, qP_some', z_i1 H1, qk_true, qv_eq]
theorem k_dgO {S : gk_S} {F m : Nat} {g : Nat → Int32} (tg : TG S g m) (hF : 16400 ≤ F) {w0 : Nat} (hw0 : w0 < 4) (f0 : flt g m = 0) (h20 : 20 ≤ m) (hT : hdr g 0 ≤ m) (hw : whl g m (hdr g 0) = true) :
    ∃ S1, f_X11_datagram F S 0 (nI w0) = (qc (f_X11_judge F (sI S1 101 1 0) 0 (bI (tls g m))) fun x88 S89 => some (.inl x88, S89)) ∧ Frm [812, 201] [] [] [] [346, 348] [] S S1 ∧ gI S1 812 0 = 0 ∧ PK S1 345 (dpk g w0) ∧ (tls g m = true → PK S1 347 (pg g (hdr g 0 + 8))) := by
  have h0 := tg.1
  have hm := tg.2.2.2
  have t0 : gk_tops (0 : Int32).toNatClampNeg = lN 3 := rfl
  have ok := ok_l (n := 3) (by omega) hw0
  have kf := k_fault (F := F) (TG_CO tg) hF hm
  rw [f0] at kf
  have H1 := Sh_sI h0 812 0 (nI 0)
  have e812 : gI (sI S 812 0 (nI 0)) 812 0 = nI 0 := rd_eq _ _ _ _
  have tg1 := TG_sI tg (f := 812) (by decide) 0 (nI 0)
  have w8 := fun hb => (whl_8 hw hb hT).1
  have pt0 : pgt g 0 = hdr g 0 := Nat.zero_add _
  obtain ⟨r, k1, k2⟩ := k_readp (F := F) (a := 345) tg1 ⟨z_i345 H1, z_p200_345 H1, z_i346 H1, z_l346 H1⟩ (q := 0) (by omega) (fun e => by rw [pt0]; rw [Nat.zero_add] at e; exact w8 e)
  have k1' : f_X10_readPacket F (sI S 812 0 (nI 0)) 1 0 345 = some ((), sI (rJ (sI S 812 0 (nI 0)) 346 r) 201 345 0) := k1
  have H2 := Sh_sI (Sh_rJ H1 346 r) 201 345 0
  have e48 : wJ (sI (rJ (sI S 812 0 (nI 0)) 346 r) 201 345 0) 346 0 (lN w0) = sI (rJ (sI S 812 0 (nI 0)) 346 (vp_updL r 0 (lN w0))) 201 345 0 := by
    rw [wJ_sI, wJ_rJ]
    rfl
  generalize hr0 : vp_updL r 0 (lN w0) = r0 at e48
  have r0f : ∀ f, f < 6 → r0 f = lN (dpk g w0 f) := by
    intro f hf
    rw [← hr0]
    unfold vp_updL dpk
    by_cases e : f = 0
    · rw [if_pos e, if_pos e]
    · rw [if_neg e, if_neg e, if_neg (show ¬ f = 6 by omega)]
      exact k2 f hf
  have tg3 := TG_sI (TG_rJ tg1 346 r0) (f := 201) (by decide) 345 0
  have H3 := tg3.1
  have kfl := k_flags (F := F) (TG_CO tg3) h20 hm (fun e => (whl_8 hw (by unfold hsb; exact decide_eq_true (by omega)) hT).2 e)
  have tg4 := TG_sI (TG_rJ tg1 346 r0) (f := 201) (by decide) 345 (nI (dfl g))
  have H4 := tg4.1
  obtain ⟨S', t1, t2⟩ := k_tells (F := F) tg4 h20 (fun e => w8 (by unfold hsb; exact decide_eq_true (by omega)))
  have F4 : Frm [812, 201] [] [] [] [346, 348] [] S (sI (rJ (sI S 812 0 (nI 0)) 346 r0) 201 345 (nI (dfl g))) := Fr_sI (Fr_rJ (Fr_sI Fr_refl (by decide) _ _) (by decide) _) (by decide) _ _
  have F5 : Frm [812, 201] [] [] [] [346, 348] [] S S' := by
    rcases t2 with ⟨-, e⟩ | ⟨-, r2, e, -⟩
    · rw [e]; exact F4
    · rw [e]; exact Fr_sI (Fr_rJ F4 (by decide) _) (by decide) _ _
  have H5 := Fr_Sh F5 h0 (by decide) (by decide)
  have x346 : xJ S' 346 = r0 := by
    rcases t2 with ⟨-, e⟩ | ⟨-, r2, e, -⟩
    · rw [e]; rfl
    · rw [e]; rfl
  have g201 : gI S' 201 345 = nI (dfl g) := by
    rcases t2 with ⟨-, e⟩ | ⟨-, r2, e, -⟩
    · rw [e]; rfl
    · rw [e, rd_ne _ _ (Or.inr (by decide))]; rfl
  refine ⟨S', ?_, F5, ?_, ⟨z_i345 H5, z_p200_345 H5, z_i346 H5, z_l346 H5, fun f hf => by rw [x346]; exact r0f f hf, g201, dpk_WP g (by omega)⟩, fun ht => ?_⟩
  · have hh : ∀ x y, (if (nI 0 : Int32) = 0 then x else y : Option ((Int32 ⊕ String) × gk_S)) = x := fun x y => if_pos rfl
    unfold f_X11_datagram
    rw [if_neg ok.1, t0, if_pos ok.2.2.1, z_i0 h0, qk_true, z_p800_0 h0, qP_some', kf, qc_some', z_i0 h0, qk_true, qv_eq, qv_eq, e812, hh, z_p800_0 H1, qP_some', z_p806_0 H1, qP_some', k1', qc_some', z_i0 H2, qk_true, z_p806_0 H2, qP_some', z_i345 H2, qk_true, z_p200_345 H2, qP_some', z_i346 H2, qk_true, z_l346 H2, show inb 0 6 = true from rfl, qk_true, qv_eq, nI_l (by omega), e48, z_p806_0 H3, qP_some', z_p800_0 H3, qP_some', kfl, qc_some', z_i345 H3, qk_true, qv_eq, sI_sI, z_i0 H4, qk_true, z_p800_0 H4, qP_some', z_p807_0 H4, qP_some', t1, qc_some', z_i0 H5, qk_true, z_p800_0 H5, qP_some', z_i1 H5, qk_true, qv_eq]
  · rcases t2 with ⟨-, e⟩ | ⟨-, r2, e, -⟩
    · rw [e]; rfl
    · rw [e]; rfl
  · rcases t2 with ⟨e, -⟩ | ⟨-, r2, e, e2⟩
    · exact absurd (e.symm.trans ht) (by decide)
    · refine ⟨z_i347 H5, z_p200_347 H5, z_i348 H5, z_l348 H5, fun f hf => ?_, ?_, pg_WP _ _⟩
      · rw [e]
        exact e2 f hf
      · rw [e, rd_eq]
        rfl
theorem c_datagram {S : gk_S} {t F : Nat} (h : Inv S t) (hF : 16400 ≤ F) (p : Int32) : OkT (f_L_datagram F S 0 p 372) (fun S1 => f_X12_datagram F S1 352 p) t := by
  have hI := h
  obtain ⟨h0, i1, i2, i3, i4, i5, i6, i7, i8⟩ := h
  have t0 : gk_tops (0 : Int32).toNatClampNeg = lN 3 := rfl
  rcases ix_cases p (n := 4) (by omega) with hb | ⟨w0, hw0, rfl⟩
  · refine okT_thr hI one_ne ?_ (dg_bad (Sh_cS h0) hb)
    have e : f_X11_datagram F S 0 p = some (.inr gx_A, cS S) := by
      unfold f_X11_datagram f_X11_datagram_15
      by_cases q : p < 0
      · rw [if_pos q]
      · rw [if_neg q, t0, if_neg (bad_l (n := 3) (by omega) hb q).2.1]
    simp only [f_L_datagram, qk_true, qk_false, qv_eq, qP_some', qP_none, qc_some', qc_none, qx_inl', qx_inr', qh_inl', qh_inr', z_i0 h0, e, if_true]
  obtain ⟨m, hm, g1, g2, g3, g4⟩ := i1
  generalize hg : xI S 2 = g at g3 g4
  have tg : TG S g m := ⟨h0, g1, hg, hm⟩
  obtain ⟨R, L, lc, lt⟩ := Ls_el i5
  have lw : ∀ {v : Int32} {S1 : gk_S}, Sh S1 → f_X11_datagram F S 0 (nI w0) = some (.inl v, S1) → f_L_datagram F S 0 (nI w0) 372 = some (0, wJ S1 372 0 v.toInt64) := by
    intro v S1 H e
    unfold f_L_datagram
    rw [z_i0 h0, qk_true, e, qh_inl', z_i372 H, qk_true, z_l372 H, in0_1, qk_true, qv_eq]
  by_cases f0 : flt g m = 0
  · have h20 : 20 ≤ m ∧ hdr g 0 ≤ m ∧ whl g m (hdr g 0) = true := ((m_dg (F := F) h0 g3 hF hm (g4 7) g2 hw0).2 f0).2
    obtain ⟨S1, k1, F1, k3, k4, k5⟩ := k_dgO (F := F) tg hF hw0 f0 h20.1 h20.2.1 h20.2.2
    have F2 : Frm [812, 201, 101] [] [] [] [346, 348] [] S (sI S1 101 1 0) := Fr_sI (Fr_mono F1 (by decide) (by decide) (by decide) (by decide) (by decide) (by decide)) (by decide) _ _
    have H2 := Fr_Sh F2 h0 (by decide) (by decide)
    have lc1 := Fr_LsC F2 lc (by decide) (by decide) (by decide) (by decide) (by decide)
    have lt1 := Fr_LsT F2 lt (by decide) (by decide)
    have tb1 := Fr_Tb F2 i6 (by decide) (by decide) (by decide) (by decide)
    have pk : PK (sI S1 101 1 0) 345 (dpk g w0) := k4
    have pk2 : tls g m = true → PK (sI S1 101 1 0) 347 (pg g (hdr g 0 + 8)) := k5
    obtain ⟨ans, S2, j1, j2, j3⟩ := jc (F := F) H2 hF tb1 lc1 lt1 pk (tls g m) pk2
    have H3 := Fr_Sh j2 H2 (by decide) (by decide)
    rw [j1, qc_some'] at k1
    have x353 : xI (wJ S2 372 0 ans.toInt64) 353 = g := by
      show xI S2 353 = g
      rw [j2.2.2.2.2.2.2.1 353 (by decide), F2.2.2.2.2.2.2.1 353 (by decide)]
      exact g3
    have g902 : gI (wJ S2 372 0 ans.toInt64) 902 352 = nI m := by
      show gI S2 902 352 = nI m
      rw [j2.2.2.2.1 902 352 (by decide), F2.2.2.2.1 902 352 (by decide)]
      exact g2
    have H4 : Sh (wJ S2 372 0 ans.toInt64) := H3
    have d1 := ((m_dg (F := F) H4 x353 hF hm (g4 7) g902 hw0).2 f0).1
    have HB := Sh_sI (Sh_sI H4 900 352 0) 902 352 0
    obtain ⟨S', d2, d3⟩ := m_341 (F := F) (m := m) HB x353 hm w0 (fun e => by have := (whl_8 h20.2.2 (by unfold hsb; exact decide_eq_true (by omega)) h20.2.1).2 e; omega) (fun e => (whl_8 h20.2.2 e h20.2.1).1)
    have F3 : Frm [900, 941, 918, 902] [] [] [371] [372] [] S2 (sI S' 941 352 (bI (tls g m))) := by
      refine Fr_sI ?_ (by decide) _ _
      rcases d3 with ⟨-, e⟩ | ⟨-, tr, e, -⟩
      · rw [e]; exact Fr_sI (Fr_sI (Fr_sI (Fr_wJ Fr_refl (by decide) _ _) (by decide) _ _) (by decide) _ _) (by decide) _ _
      · rw [e]; exact Fr_rI (Fr_sI (Fr_sI (Fr_sI (Fr_wJ Fr_refl (by decide) _ _) (by decide) _ _) (by decide) _ _) (by decide) _ _) (by decide) _
    obtain ⟨S3, c1, c2, c3, c4, c5, c6⟩ := j3 _ F3 (rd_eq _ _ _ _) (fun ht j hj => by
      rcases d3 with ⟨e, -⟩ | ⟨-, tr, e, e2⟩
      · exact absurd (e.symm.trans ht) (by decide)
      · rw [e]
        exact e2 j hj)
    have keep : ∀ f, f ∈ [900, 902, 918] → gI S3 f 352 = 0 := by
      intro f hf
      have nf : f ∉ [932, 935, 936, 937, 938] := by
        have : ∀ f ∈ [900, 902, 918], f ∉ [932, 935, 936, 937, 938] := by decide
        exact this f hf
      have n941 : f ≠ 941 := by
        have : ∀ f ∈ [900, 902, 918], f ≠ 941 := by decide
        exact this f hf
      have hc : f = 900 ∨ f = 902 ∨ f = 918 := by simpa using hf
      rw [c2.2.2.2.1 f 352 nf, rd_ne _ _ (Or.inl n941)]
      rcases d3 with ⟨-, e⟩ | ⟨-, tr, e, -⟩
      · rw [e]; rcases hc with rfl | rfl | rfl <;> rfl
      · rw [e]; rcases hc with rfl | rfl | rfl <;> rfl
    refine ⟨0, wJ S2 372 0 ans.toInt64, ans, S3, lw H3 k1, ?_, keep 900 (by decide), fun _ => ?_, ?_⟩
    · show f_X12_datagram F (wJ S2 372 0 ans.toInt64) 352 (nI w0) = some (ans, S3)
      rw [d1, d2]
      unfold dgK
      have c1' : f_X12_comes F (sI S' 941 352 (bI (tls g m))) 352 (nI w0) (nI (bt g 9)) (nI (pga g 12)) (nI (pga g 16)) (nI (pgs g 0)) (nI (pgd g 0)) (nI (dfl g)) = some (ans, S3) := c1
      rw [c1', qc_some']
    · rw [c2.2.2.2.2.2.2.2.1 372 (by decide), xJ_sI]
      rcases d3 with ⟨-, e⟩ | ⟨-, tr, e, -⟩
      · rw [e]; rfl
      · rw [e]; rfl
    · have F4 : Frm [812, 201, 101, 0, 1, 2, 3, 4, 5, 6, 7, 8, 601, 604, 605, 813, 304, 403, 900, 941, 918, 902, 932, 935, 936, 937, 938] [0, 1, 2, 3, 4] [] [369, 370, 360, 371] [346, 348, 372, 364] [280] S S3 := Fr_trans (Fr_trans (Fr_trans (Fr_mono F2 (by decide) (by decide) (by decide) (by decide) (by decide) (by decide)) (Fr_mono j2 (by decide) (by decide) (by decide) (by decide) (by decide) (by decide))) (Fr_mono F3 (by decide) (by decide) (by decide) (by decide) (by decide) (by decide))) (Fr_mono c2 (by decide) (by decide) (by decide) (by decide) (by decide) (by decide))
      have g101 : ∀ a, gI S3 101 a = gI (sI S1 101 1 0) 101 a := fun a => by rw [c2.2.2.2.1 101 a (by decide), F3.2.2.2.1 101 a (by decide), j2.2.2.2.1 101 a (by decide)]
      have x2 : xI S3 2 = g := by rw [F4.2.2.2.2.2.2.1 2 (by decide)]; exact hg
      have x353' : xI S3 353 = g := by rw [F4.2.2.2.2.2.2.1 353 (by decide)]; exact g3
      refine ⟨Fr_Sh F4 h0 (by decide) (by decide), ⟨0, by omega, by rw [g101, rd_eq]; rfl, by rw [keep 902 (by decide)]; rfl, by rw [x2, x353'], by rw [x2]; exact g4⟩, Ot_c i2 ?_ (F4.2.2.2.1 921 352 (by decide)) (F4.2.2.2.2.2.2.1 363 (by decide)) (F4.2.2.2.2.2.2.1 4 (by decide)), ?_, Fr_Wd F4 i4 (by decide), Ls_in c4 c5, c3, ⟨dpk g w0, dpk_WP g (by omega), fun f hf => ?_, ?_, c6⟩, Fr_Se F4 i8 (by decide)⟩
      · rw [g101, rd_ne _ _ (Or.inr (by decide)), F1.2.2.2.1 101 3 (by decide)]
      · obtain ⟨q1, q2, q3, q4⟩ := i3
        refine ⟨?_, ?_, ?_, fun i hi => ?_⟩
        · rw [keep 918 (by decide), c2.2.2.2.1 812 0 (by decide), F3.2.2.2.1 812 0 (by decide), j2.2.2.2.1 812 0 (by decide), rd_ne _ _ (Or.inl (by decide)), k3]
        · rw [F4.2.2.2.1 811 0 (by decide), F4.2.2.2.1 925 352 (by decide)]; exact q2
        · rw [F4.2.2.2.1 811 0 (by decide)]; exact q3
        · rw [F4.2.2.2.2.2.2.2.1 351 (by decide), F4.2.2.2.2.2.2.2.1 365 (by decide)]; exact q4 i hi
      · rw [c2.2.2.2.2.2.2.2.1 346 (by decide), F3.2.2.2.2.2.2.2.1 346 (by decide), j2.2.2.2.2.2.2.2.1 346 (by decide)]
        exact pk.2.2.2.2.1 f hf
      · rw [c2.2.2.2.1 201 345 (by decide), F3.2.2.2.1 201 345 (by decide), j2.2.2.2.1 201 345 (by decide)]
        exact pk.2.2.2.2.2.1
  · have k1 := k_dgH (F := F) tg hF hw0 f0
    have H1 : Sh (sI (sI S 812 0 (nI (flt g m))) 101 1 0) := Sh_sI (Sh_sI h0 _ _ _) _ _ _
    generalize hv : (-1 : Int32) - nI (fpl g m) = v at k1
    have H4 : Sh (wJ (sI (sI S 812 0 (nI (flt g m))) 101 1 0) 372 0 v.toInt64) := H1
    have d1 := (m_dg (S := wJ (sI (sI S 812 0 (nI (flt g m))) 101 1 0) 372 0 v.toInt64) (F := F) H4 g3 hF hm (g4 7) g2 hw0).1 f0
    rw [hv] at d1
    refine ⟨0, _, v, _, lw H1 k1, d1, rfl, fun _ => rfl, ?_⟩
    have F4 : Frm [812, 101, 900, 902, 918] [] [] [] [372] [] S (sI (sI (sI (wJ (sI (sI S 812 0 (nI (flt g m))) 101 1 0) 372 0 v.toInt64) 900 352 0) 902 352 0) 918 352 (nI (flt g m))) := Fr_sI (Fr_sI (Fr_sI (Fr_wJ (Fr_sI (Fr_sI Fr_refl (by decide) _ _) (by decide) _ _) (by decide) _ _) (by decide) _ _) (by decide) _ _) (by decide) _ _
    have e101 : ∀ a, gI (sI (sI (sI (wJ (sI (sI S 812 0 (nI (flt g m))) 101 1 0) 372 0 v.toInt64) 900 352 0) 902 352 0) 918 352 (nI (flt g m))) 101 a = if a = 1 then 0 else gI S 101 a := by
      intro a
      rw [rd_ne _ _ (Or.inl (by decide)), rd_ne _ _ (Or.inl (by decide)), rd_ne _ _ (Or.inl (by decide)), gI_wJ, gI_sI, rd_ne _ _ (Or.inl (by decide))]
      by_cases q : a = 1
      · rw [if_pos ⟨rfl, q⟩, if_pos q]
      · rw [if_neg (fun e => q e.2), if_neg q]
    have e812 : gI (sI (sI (sI (wJ (sI (sI S 812 0 (nI (flt g m))) 101 1 0) 372 0 v.toInt64) 900 352 0) 902 352 0) 918 352 (nI (flt g m))) 812 0 = nI (flt g m) := by
      rw [rd_ne _ _ (Or.inl (by decide)), rd_ne _ _ (Or.inl (by decide)), rd_ne _ _ (Or.inl (by decide)), gI_wJ, rd_ne _ _ (Or.inl (by decide)), rd_eq]
    have e902 : gI (sI (sI (sI (wJ (sI (sI S 812 0 (nI (flt g m))) 101 1 0) 372 0 v.toInt64) 900 352 0) 902 352 0) 918 352 (nI (flt g m))) 902 352 = 0 := by
      rw [rd_ne _ _ (Or.inl (by decide)), rd_eq]
    generalize hT : sI (sI (sI (wJ (sI (sI S 812 0 (nI (flt g m))) 101 1 0) 372 0 v.toInt64) 900 352 0) 902 352 0) 918 352 (nI (flt g m)) = T at F4 e101 e812 e902
    have e918 : gI T 918 352 = nI (flt g m) := by rw [← hT, rd_eq]
    have x2 : xI T 2 = g := by rw [F4.2.2.2.2.2.2.1 2 (by decide)]; exact hg
    have x353' : xI T 353 = g := by rw [F4.2.2.2.2.2.2.1 353 (by decide)]; exact g3
    refine ⟨Fr_Sh F4 h0 (by decide) (by decide), ⟨0, by omega, by rw [e101, if_pos rfl]; rfl, by rw [e902]; rfl, by rw [x2, x353'], by rw [x2]; exact g4⟩, Ot_c i2 (by rw [e101, if_neg (by decide)]) (F4.2.2.2.1 921 352 (by decide)) (F4.2.2.2.2.2.2.1 363 (by decide)) (F4.2.2.2.2.2.2.1 4 (by decide)), ?_, Fr_Wd F4 i4 (by decide), Ls_in (Fr_LsC F4 lc (by decide) (by decide) (by decide) (by decide) (by decide)) (Fr_LsT F4 lt (by decide) (by decide)), Fr_Tb F4 i6 (by decide) (by decide) (by decide) (by decide), Fr_Lp F4 i7 (by decide), Fr_Se F4 i8 (by decide)⟩
    obtain ⟨q1, q2, q3, q4⟩ := i3
    refine ⟨by rw [e812, e918], ?_, ?_, fun i hi => ?_⟩
    · rw [F4.2.2.2.1 811 0 (by decide), F4.2.2.2.1 925 352 (by decide)]; exact q2
    · rw [F4.2.2.2.1 811 0 (by decide)]; exact q3
    · rw [F4.2.2.2.2.2.2.2.1 351 (by decide), F4.2.2.2.2.2.2.2.1 365 (by decide)]; exact q4 i hi
