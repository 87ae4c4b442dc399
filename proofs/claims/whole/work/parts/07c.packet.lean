/-- what goes through from one heap to the other -/
theorem rest_F {lI lJ lP rI' rJ' rP' : List Nat} {S T : gk_S} {t : Nat} (h : Frm lI lJ lP rI' rJ' rP' S T) (i1 : Tp S) (i2 : Ot S) (i3 : Fnd S) (i4 : Wd S) (i8 : Se S t) (e1 : ∀ f ∈ [101, 902, 921, 812, 918, 811, 925], f ∉ lI) (e2 : ∀ a ∈ [353, 2, 363, 4, 361, 362], a ∉ rI') (e3 : ∀ a ∈ [351, 365, 278], a ∉ rJ') (e4 : 508 ∉ lJ) : Tp T ∧ Ot T ∧ Fnd T ∧ Wd T ∧ Se T t :=
  ⟨Fr_Tp h i1 ⟨e1 _ (by decide), e1 _ (by decide), e2 _ (by decide), e2 _ (by decide)⟩, Fr_Ot h i2 ⟨e1 _ (by decide), e1 _ (by decide), e2 _ (by decide), e2 _ (by decide)⟩, Fr_Fnd h i3 ⟨e1 _ (by decide), e1 _ (by decide), e1 _ (by decide), e1 _ (by decide), e3 _ (by decide), e3 _ (by decide)⟩, Fr_Wd h i4 ⟨e2 _ (by decide), e2 _ (by decide)⟩, Fr_Se h i8 ⟨e4, e3 _ (by decide)⟩⟩
theorem pkt_WP {w0 w1 w2 w3 w4 w5 w6 : Nat} (h0 : w0 ≤ 3) (h1 : w1 ≤ 255) (h2 : w2 ≤ 4294967295) (h3 : w3 ≤ 4294967295) (h4 : w4 ≤ 65535) (h5 : w5 ≤ 65535) (h6 : w6 ≤ 63) : WP (pkt w0 w1 w2 w3 w4 w5 w6) := ⟨h0, h1, h2, h3, h4, h5, h6⟩
theorem m_pk1 {S : gk_S} (h : Sh S) {F : Nat} (a b c d e f g : Int32) : f_X12_packet_54 F 352 a b c d e f g 1 352 S = some (0, sI S 900 352 1) := by
  simp only [f_X12_packet_54, qk_true, qk_false, qv_eq, qP_some', qP_none, qc_some', qc_none, qx_inl', qx_inr', qh_inl', qh_inr', z_i352 h, m_ti1 h, one_ne, if_false]
theorem m_packetb {S : gk_S} (h : Sh S) {F : Nat} {p1 p2 p3 p4 p5 p6 p7 : Int32} (hb : (bad p1 4 ∨ bad p2 256 ∨ bad p5 65536 ∨ bad p6 65536) ∨ bad p7 64) : f_X12_packet F S 352 p1 p2 p3 p4 p5 p6 p7 = some (0, sI S 900 352 1) := by
  have a0 := m_no (S := S) (F := F) (n := 3) (by omega) p1
  have a1 := m_no (S := S) (F := F) (n := 255) (by omega) p2
  have a2 := m_no (S := S) (F := F) (n := 65535) (by omega) p5
  have a3 := m_no (S := S) (F := F) (n := 65535) (by omega) p6
  have a4 := m_no (S := S) (F := F) (n := 63) (by omega) p7
  have nb : ∀ {j n : Nat}, j < n → n < 2 ^ 31 → ¬ bad (nI j) n := fun hj hn b => b.elim (nI_pos (by omega)) (nI_ge hj hn)
  unfold f_X12_packet
  rw [show (3 : Int32) = nI 3 from rfl, show (255 : Int32) = nI 255 from rfl, show (65535 : Int32) = nI 65535 from rfl, show (63 : Int32) = nI 63 from rfl]
  rcases a0 with ⟨-, e⟩ | ⟨j, hj, rfl, e⟩ <;> rw [e] <;> simp only [qk_true, qk_false, qv_eq, qP_some', qP_none, qc_some', qc_none, qx_inl', qx_inr', qh_inl', qh_inr', one_ne, if_false, if_true, m_pk1 h]
  rcases a1 with ⟨-, e⟩ | ⟨j1, hj1, rfl, e⟩ <;> rw [e] <;> simp only [qk_true, qk_false, qv_eq, qP_some', qP_none, qc_some', qc_none, qx_inl', qx_inr', qh_inl', qh_inr', one_ne, if_false, if_true, m_pk1 h]
  rcases a2 with ⟨-, e⟩ | ⟨j2, hj2, rfl, e⟩ <;> rw [e] <;> simp only [qk_true, qk_false, qv_eq, qP_some', qP_none, qc_some', qc_none, qx_inl', qx_inr', qh_inl', qh_inr', one_ne, if_false, if_true, m_pk1 h]
  rcases a3 with ⟨-, e⟩ | ⟨j3, hj3, rfl, e⟩ <;> rw [e] <;> simp only [qk_true, qk_false, qv_eq, qP_some', qP_none, qc_some', qc_none, qx_inl', qx_inr', qh_inl', qh_inr', one_ne, if_false, if_true, m_pk1 h]
  rcases a4 with ⟨-, e⟩ | ⟨j4, hj4, rfl, e⟩ <;> rw [e] <;> simp only [qk_true, qk_false, qv_eq, qP_some', qP_none, qc_some', qc_none, qx_inl', qx_inr', qh_inl', qh_inr', one_ne, if_false, if_true, m_pk1 h]
  rcases hb with (b | b | b | b) | b
  · exact absurd b (nb hj (by omega))
  · exact absurd b (nb hj1 (by omega))
  · exact absurd b (nb hj2 (by omega))
  · exact absurd b (nb hj3 (by omega))
  · exact absurd b (nb hj4 (by omega))
theorem xAE : ¬ gx_A = gx_E := by decide
theorem c_packet {S : gk_S} {t F : Nat} (h : Inv S t) (hF : 16400 ≤ F) (p1 p2 p3 p4 p5 p6 p7 : Int32) : OkT (f_L_packet F S 0 p1 p2 p3 p4 p5 p6 p7 372) (fun S1 => f_X12_packet F S1 352 p1 p2 p3 p4 p5 p6 p7) t := by
  have hI := h
  obtain ⟨h0, i1, i2, i3, i4, i5, i6, i7, i8⟩ := h
  rcases k_cf (S := S) (F := F) p1 p2 p5 p6 with ⟨hb, e⟩ | ⟨w0, w1, w4, w5, c0, c1, c4, c5, rfl, rfl, rfl, rfl, e⟩
  · refine okT_thr hI one_ne ?_ (m_packetb (Sh_cS h0) (Or.inl hb))
    simp only [f_L_packet, f_X11_packet, qk_true, qk_false, qv_eq, qP_some', qP_none, qc_some', qc_none, qx_inl', qx_inr', qh_inl', qh_inr', z_i0 h0, e, if_true]
  rcases ix_cases p7 (n := 64) (by omega) with hb | ⟨w6, c6, rfl⟩
  · refine okT_thr hI one_ne ?_ (m_packetb (Sh_cS h0) (Or.inr hb))
    simp only [f_L_packet, f_X11_packet, f_X11_packet_21, qk_true, qk_false, qv_eq, qP_some', qP_none, qc_some', qc_none, qx_inl', qx_inr', qh_inl', qh_inr', z_i0 h0, e]
    by_cases q : p7 < 0
    · simp only [q, if_true, qk_true, qk_false, qv_eq, qP_some', qP_none, qc_some', qc_none, qx_inl', qx_inr', qh_inl', qh_inr']
    · simp only [q, if_false, show ¬ p7 ≤ 63 from nge (n := 63) (by omega) (hb.resolve_left q) (by omega), qk_true, qk_false, qv_eq, qP_some', qP_none, qc_some', qc_none, qx_inl', qx_inr', qh_inl', qh_inr', if_true]
  have u2 := un_lt p3
  have u3 := un_lt p4
  have wp := pkt_WP (w0 := w0) (w1 := w1) (w2 := un p3) (w3 := un p4) (w4 := w4) (w5 := w5) (w6 := w6) (by omega) (by omega) (by omega) (by omega) (by omega) (by omega) (by omega)
  have f1 := k_fill (S := S) (F := F) (z_i345 h0) (z_p200_345 h0) (z_i346 h0) (z_l346 h0) (by omega : w0 < 2 ^ 31) (by omega : w1 < 2 ^ 31) (by omega : w4 < 2 ^ 31) (by omega : w5 < 2 ^ 31) p3 p4 w6
  have ep : nI (pkt w0 w1 (un p3) (un p4) w4 w5 w6 0) = nI w0 ∧ nI (pkt w0 w1 (un p3) (un p4) w4 w5 w6 1) = nI w1 ∧ nI (pkt w0 w1 (un p3) (un p4) w4 w5 w6 2) = p3 ∧ nI (pkt w0 w1 (un p3) (un p4) w4 w5 w6 3) = p4 ∧ nI (pkt w0 w1 (un p3) (un p4) w4 w5 w6 4) = nI w4 ∧ nI (pkt w0 w1 (un p3) (un p4) w4 w5 w6 5) = nI w5 ∧ nI (pkt w0 w1 (un p3) (un p4) w4 w5 w6 6) = nI w6 := ⟨rfl, rfl, nI_un p3, nI_un p4, rfl, rfl, rfl⟩
  generalize hpk : pkt w0 w1 (un p3) (un p4) w4 w5 w6 = P at f1 wp ep
  obtain ⟨v0, v1, v2, v3, v4, v5, v6⟩ := ep
  generalize hg : fl6 (xJ S 346) P = g at f1
  have gf : ∀ f, f < 6 → g f = lN (P f) := fun f hf => by rw [← hg]; exact fl6_at _ _ f hf
  have F1 : Frm [201] [] [] [] [346] [] S (sI (rJ S 346 g) 201 345 (nI w6)) := Fr_sI (Fr_rJ Fr_refl (by decide) _) (by decide) _ _
  have H1 : Sh (sI (rJ S 346 g) 201 345 (nI w6)) := h0
  have pk : PK (sI (rJ S 346 g) 201 345 (nI w6)) 345 P := ⟨z_i345 H1, z_p200_345 H1, z_i346 H1, z_l346 H1, gf, v6.symm, wp⟩
  obtain ⟨R, L, lc, lt⟩ := Ls_el i5
  have lc1 := Fr_LsC F1 lc (by decide) (by decide) (by decide) (by decide) (by decide)
  have lt1 := Fr_LsT F1 lt (by decide) (by decide)
  have tb1 := Fr_Tb F1 i6 (by decide) (by decide) (by decide) (by decide)
  obtain ⟨ans, S1, j1, j2, j3⟩ := jc (F := F) H1 hF tb1 lc1 lt1 pk false (p2 := P) (fun e => by cases e)
  have H2 := Fr_Sh j2 H1 (by decide) (by decide)
  have F2 : Frm [900, 941, 918, 902] [] [] [371] [372] [] S1 (sI (sI (wJ S1 372 0 ans.toInt64) 900 352 0) 941 352 0) := Fr_sI (Fr_sI (Fr_wJ Fr_refl (by decide) _ _) (by decide) _ _) (by decide) _ _
  obtain ⟨S3, k1, k2, k3, k4, k5, k6⟩ := j3 _ F2 rfl (fun e => by cases e)
  rw [v0, v1, v2, v3, v4, v5, v6] at k1
  refine ⟨0, wJ S1 372 0 ans.toInt64, ans, S3, ?_, ?_, ?_, fun _ => ?_, ?_⟩
  · simp only [f_L_packet, f_X11_packet, qk_true, qk_false, qv_eq, qP_some', qP_none, qc_some', qc_none, qx_inl', qx_inr', qh_inl', qh_inr', z_i0 h0, e, show ¬ nI w6 < 0 from nI_pos (by omega), show nI w6 ≤ 63 from nI_le (b := 63) (by omega) (by omega), if_true, if_false, z_p806_0 h0, z_i345 h0, f1, isb_rJ, gP_rJ]
    rw [show (0 : Int32) = bI false from rfl, j1]
    simp only [qk_true, qk_false, qv_eq, qP_some', qP_none, qc_some', qc_none, qx_inl', qx_inr', qh_inl', qh_inr', z_i372 H2, z_l372 H2, show inb (bI false) 1 = true from rfl]
  · have H3 : Sh (wJ S1 372 0 ans.toInt64) := H2
    have H4 : Sh (sI (wJ S1 372 0 ans.toInt64) 900 352 0) := H2
    simp only [f_X12_packet, show (3 : Int32) = nI 3 from rfl, show (255 : Int32) = nI 255 from rfl, show (65535 : Int32) = nI 65535 from rfl, show (63 : Int32) = nI 63 from rfl, m_no0 (n := 3) (by omega) c0, m_no0 (n := 255) (by omega) c1, m_no0 (n := 65535) (by omega) c4, m_no0 (n := 65535) (by omega) c5, m_no0 (n := 63) (by omega) c6, qk_true, qk_false, qv_eq, qP_some', qP_none, qc_some', qc_none, qx_inl', qx_inr', qh_inl', qh_inr', if_true, f_X12_packet_54, z_i352 H3, m_ti0 H3, z_i352 H4, k1]
  · exact (k2.2.2.2.1 900 352 (by decide)).trans rfl
  · rw [k2.2.2.2.2.2.2.2.1 372 (by decide)]
    rfl
  · have F3 : Frm [0, 1, 2, 3, 4, 5, 6, 7, 8, 601, 604, 605, 813, 304, 403, 201, 900, 941, 932, 935, 936, 937, 938] [0, 1, 2, 3, 4] [] [369, 370, 360] [346, 372, 364] [280] S S3 := by
      refine Fr_trans (Fr_trans (Fr_mono F1 (by decide) (by decide) (by decide) (by decide) (by decide) (by decide)) (Fr_mono j2 (by decide) (by decide) (by decide) (by decide) (by decide) (by decide))) (Fr_trans ?_ (Fr_mono k2 (by decide) (by decide) (by decide) (by decide) (by decide) (by decide)))
      exact Fr_sI (Fr_sI (Fr_wJ Fr_refl (by decide) _ _) (by decide) _ _) (by decide) _ _
    obtain ⟨r1, r2, r3, r4, r8⟩ := rest_F F3 i1 i2 i3 i4 i8 (by decide) (by decide) (by decide) (by decide)
    refine ⟨Fr_Sh F3 h0 (by decide) (by decide), r1, r2, r3, r4, Ls_in k4 k5, k3, ⟨P, wp, fun f hf => ?_, ?_, k6⟩, r8⟩
    · rw [k2.2.2.2.2.2.2.2.1 346 (by decide), F2.2.2.2.2.2.2.2.1 346 (by decide), j2.2.2.2.2.2.2.2.1 346 (by decide)]
      exact gf f hf
    · rw [k2.2.2.2.1 201 345 (by decide), F2.2.2.2.1 201 345 (by decide), j2.2.2.2.1 201 345 (by decide)]
      exact v6.symm
