theorem k_beg48 {S : gk_S} (h : Sh S) {F q a tm n : Nat} {c p : Nat → Nat} (q1 : 281 ≤ q) (q2 : q < 345) (pk : PK S a p) (hn : n < 64) (g1 : gI S 601 279 = nI n) (e : xP S 280 n = some q) (h3 : gI S 603 279 = nI tm) (bg : BG c p tm) : f_X8_begin_48 F 279 a S = some (1, nbS S q c n) := by
  have H := Sh_bgS h q c
  have xb := k_xbegin (F := F) h q1 q2 pk bg
  have w1 := pk.2.2.2.2.2.2.2.1
  obtain ⟨b0, b1, b2, b3, b4, b5, b6, b7, b8⟩ := bg
  have a6 : gI (bgS S q c) 6 q = nI 0 := bg_6 S q c
  have xl := k_xlife (F := F) H q1 q2 (bg_0 S q c) (bg_5 S q c) a6 (by omega) (fun e => by rw [b5]; unfold ph0; rw [if_pos (by omega)]; omega) (by omega)
  have h3' : gI (bgS S q c) 603 279 = nI tm := (bg_f S q c (by omega) _).trans h3
  have e8 : nI tm + nI (lf (c 0) (c 5) 0) = nI (c 8) := by rw [nI_add, b8, b0, b5]
  have g1' : gI (sI (bgS S q c) 8 q (nI (c 8))) 601 279 = nI n := by
    rw [gI_sI, if_neg (fun e => absurd e.1 (by decide)), bg_f S q c (by omega)]
    exact g1
  simp only [f_X8_begin_48, qk_true, qk_false, qv_eq, qP_some', qP_none, qc_some', qc_none, qx_inl', qx_inr', qh_inl', qh_inr', z_i279 h, g1, k_tat h hn e, z_c h q1 q2, xb, z_i279 H, h3', z_c H q1 q2, xl, e8, isb_sI, g1', nI_1, nbS]
