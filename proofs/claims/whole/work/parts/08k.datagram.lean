theorem dg_bad {S : gk_S} (h : Sh S) {F : Nat} {p : Int32} (hb : bad p 4) : f_X12_datagram F S 352 p = some (0, sI S 900 352 1) := by
  have m3 : f_X12_isNone F S p 3 = some (1, S) := m_no1 (n := 3) (by omega) hb
  unfold f_X12_datagram
  rw [m3, qc_some', z_i352 h, qk_true, m_ti1 h, qc_some', if_neg one_ne]
theorem pg_WP (g : Nat → Int32) (q : Nat) : WP (pg g q) := by
  have b9 := bt_lt g (q + 9)
  have wa := fun i => wd_lt g i
  refine ⟨by show 0 ≤ 3; omega, by show bt g (q + 9) ≤ 255; omega, ?_, ?_, ?_, ?_, by show 0 ≤ 63; omega⟩
  · show pga g (q + 12) ≤ 4294967295
    have := wa (q + 12); have := wa (q + 12 + 2); unfold pga; omega
  · show pga g (q + 16) ≤ 4294967295
    have := wa (q + 16); have := wa (q + 16 + 2); unfold pga; omega
  · show pgs g q ≤ 65535
    have := wa (pgt g q)
    unfold pgs
    split <;> omega
  · show pgd g q ≤ 65535
    have := wa (pgt g q + 2); have := wa (pgt g q + 4)
    unfold pgd
    repeat' split
    all_goals omega
/-- the datagram's packet -/
def dpk (g : Nat → Int32) (w0 : Nat) : Nat → Nat := fun f => if f = 0 then w0 else if f = 6 then dfl g else pg g 0 f
theorem dpk_WP (g : Nat → Int32) {w0 : Nat} (h : w0 ≤ 3) : WP (dpk g w0) := by
  have p := pg_WP g 0
  refine ⟨h, p.2.1, p.2.2.1, p.2.2.2.1, p.2.2.2.2.1, p.2.2.2.2.2.1, ?_⟩
  show dfl g ≤ 63
  unfold dfl
  split <;> omega
theorem c_datagram {S : gk_S} {t F : Nat} (h : Inv S t) (hF : 16400 ≤ F) (p : Int32) : OkT (f_L_datagram F S 0 p 372) (fun S1 => f_X12_datagram F S1 352 p) t := by
  have hI := h
  obtain ⟨h0, i1, i2, i3, i4, i5, i6, i7, i8⟩ := h
  have t0 : gk_tops (0 : Int32).toNatClampNeg = lN 3 := rfl
  rcases ix_cases p (n := 4) (by omega) with hb | ⟨w0, hw0, rfl⟩
  · refine okT_thr hI one_ne ?_ (dg_bad (Sh_cS h0) hb)
    have e : f_X11_datagram F S 0 p = some (.inr gx_A, cS S) := by
      unfold f_X11_datagram f_X11_datagram_15
      by_cases q : p < 0
      · rw [if_pos q]
      · rw [if_neg q, t0, if_neg (bad_l (n := 3) (by omega) hb q).2.1]
    simp only [f_L_datagram, qk_true, qk_false, qv_eq, qP_some', qP_none, qc_some', qc_none, qx_inl', qx_inr', qh_inl', qh_inr', z_i0 h0, e, if_true]
  obtain ⟨m, hm, g1, g2, g3, g4⟩ := i1
  generalize hg : xI S 2 = g at g3 g4
  have tg : TG S g m := ⟨h0, g1, hg, hm⟩
  have ok := ok_l (n := 3) (by omega) hw0
  have kf := k_fault (F := F) (TG_CO tg) hF hm
  have hd : f_X11_datagram F S 0 (nI w0) = if gI (sI S 812 0 (nI (flt g m))) 812 0 = 0 then _ else _ := by
    unfold f_X11_datagram
    rw [if_neg ok.1, t0, if_pos ok.2.2.1, z_i0 h0, qk_true, z_p800_0 h0, qP_some', kf, qc_some', z_i0 h0, qk_true, qv_eq, qv_eq]
  have e812 : gI (sI S 812 0 (nI (flt g m))) 812 0 = nI (flt g m) := rfl
  rw [e812] at hd
  have fl := flt_lt g m
  have zf : nI (flt g m) = 0 ↔ flt g m = 0 := nI_eq (b := 0) (by omega) (by omega)
  have H1 := Sh_sI h0 812 0 (nI (flt g m))
  by_cases f0 : flt g m = 0
  · sorry
  · rw [if_neg (fun e => f0 (zf.mp e))] at hd
    sorry
