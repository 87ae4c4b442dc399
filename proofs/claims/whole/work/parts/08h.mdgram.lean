section MDGR
variable {S : gk_S} {F m : Nat} {g : Nat → Int32}
def dgK (F : Nat) (S : gk_S) (w0 : Nat) (g : Nat → Int32) : Option (Int32 × gk_S) := qc (f_X12_comes F S 352 (nI w0) (nI (bt g 9)) (nI (pga g 12)) (nI (pga g 16)) (nI (pgs g 0)) (nI (pgd g 0)) (nI (dfl g))) fun x S => some (x, S)
theorem m_506 (h : Sh S) (hg : xI S 353 = g) (w0 : Nat) (b : Bool) (h6 : bt g 9 = 6 → hdr g 0 + 20 ≤ 2100) : f_X12_datagram_506 F 352 (nI w0) (nI (hdr g 0)) (nI (bt g 9)) (nI (pgs g 0)) (nI (pgd g 0)) (bI b) 352 S = dgK F (sI S 941 352 (bI b)) w0 g := by
  have H := Sh_sI h 941 352 (bI b)
  have G : xI (sI S 941 352 (bI b)) 353 = g := hg
  have b9 := bt_lt g 9
  have z6 : nI (bt g 9) = 6 ↔ bt g 9 = 6 := nI_eq (b := 6) (by omega) (by omega)
  have a12 : f_X12_address F (sI S 941 352 (bI b)) 352 12 = some (nI (65536 * wd g 12 + wd g (12 + 2)), sI S 941 352 (bI b)) := m_addr H G (by omega : 12 + 3 < 2100)
  have a16 : f_X12_address F (sI S 941 352 (bI b)) 352 16 = some (nI (65536 * wd g 16 + wd g (16 + 2)), sI S 941 352 (bI b)) := m_addr H G (by omega : 16 + 3 < 2100)
  unfold f_X12_datagram_506 dgK dfl
  rw [z_i352 h, qk_true, zb_bI, qk_true, qv_eq, z_i352 H, qk_true, a12, qc_some', z_i352 H, qk_true, a16, qc_some']
  by_cases c : bt g 9 = 6
  · have := h6 c
    have hl := hdr_lt g 0
    have bb := m_byte H G (by omega : hdr g 0 + 13 < 2100)
    have b13 := bt_lt g (hdr g 0 + 13)
    rw [if_pos (z6.mpr c), if_pos c, z_i352 H, qk_true, z_p901_352 H, qP_some', z_i353 H, qk_true, show nI (hdr g 0) + 13 = nI (hdr g 0 + 13) from nI_add _ 13, bb.1, qk_true, qv_eq, ← and_63, bb.2.2, show nI (bt g (hdr g 0 + 13)) &&& 63 = nI (bt g (hdr g 0 + 13) % 64) from pk_andN (by omega) 6 (by decide)]
    unfold f_X12_datagram_553
    rw [z_i352 H, qk_true]
    rfl
  · rw [if_neg (fun e => c (z6.mp e)), if_neg c]
    unfold f_X12_datagram_553
    rw [z_i352 H, qk_true]
    rfl
theorem m_453 (h : Sh S) (hg : xI S 353 = g) (hm : m ≤ 2100) (w0 : Nat) (h6 : bt g 9 = 6 → hdr g 0 + 20 ≤ 2100) (h8 : bt g 9 = 1 → hdr g 0 + 8 ≤ m) {ty : Int32} (hty : ty = if bt g 9 = 1 then nI (bt g (hdr g 0)) else -1) : ∃ S', f_X12_datagram_453 F 352 (nI w0) (nI m) (nI (hdr g 0)) (nI (bt g 9)) ty (nI (pgs g 0)) (nI (pgd g 0)) S = dgK F (sI S' 941 352 (bI (tls g m))) w0 g ∧ ((tls g m = false ∧ S' = S) ∨ (tls g m = true ∧ ∃ tr, S' = rI S 371 tr ∧ ∀ j, j < 5 → tr j = nI (pg g (hdr g 0 + 8) (j + 1)))) := by
  have bT := bt_lt g (hdr g 0)
  by_cases c1 : bt g 9 = 1
  · rw [if_pos c1] at hty
    have z3 : ty = 3 ↔ bt g (hdr g 0) = 3 := by rw [hty]; exact nI_eq (b := 3) (by omega) (by omega)
    have z4 : ty = 4 ↔ bt g (hdr g 0) = 4 := by rw [hty]; exact nI_eq (b := 4) (by omega) (by omega)
    have z5 : ty = 5 ↔ bt g (hdr g 0) = 5 := by rw [hty]; exact nI_eq (b := 5) (by omega) (by omega)
    have z11 : ty = 11 ↔ bt g (hdr g 0) = 11 := by rw [hty]; exact nI_eq (b := 11) (by omega) (by omega)
    have z12 : ty = 12 ↔ bt g (hdr g 0) = 12 := by rw [hty]; exact nI_eq (b := 12) (by omega) (by omega)
    have t8 := h8 c1
    obtain ⟨S', t1, t2⟩ := m_tale (F := F) h hg hm (I := hdr g 0 + 8) t8
    have c488 : rpt (bt g (hdr g 0)) = true → f_X12_datagram_488 F 352 (nI w0) (nI m) (nI (hdr g 0)) (nI (bt g 9)) (nI (pgs g 0)) (nI (pgd g 0)) 352 S = dgK F (sI S' 941 352 (bI (tls g m))) w0 g ∧ ((tls g m = false ∧ S' = S) ∨ (tls g m = true ∧ ∃ tr, S' = rI S 371 tr ∧ ∀ j, j < 5 → tr j = nI (pg g (hdr g 0 + 8) (j + 1)))) := by
      intro hr
      have et : tls g m = (decide (28 ≤ m - (hdr g 0 + 8)) && okf (bt g (hdr g 0 + 8)) && decide (hdr g (hdr g 0 + 8) + 8 ≤ m - (hdr g 0 + 8))) := by
        unfold tls
        rw [decide_eq_true c1, hr]
        rfl
      rw [← et] at t1 t2
      refine ⟨?_, t2⟩
      have H' : Sh S' := by
        rcases t2 with ⟨-, e⟩ | ⟨-, tr, e, -⟩
        · rw [e]; exact h
        · rw [e]; exact Sh_rI h _ _
      have G' : xI S' 353 = g := by
        rcases t2 with ⟨-, e⟩ | ⟨-, tr, e, -⟩
        · rw [e]; exact hg
        · rw [e]; exact hg
      unfold f_X12_datagram_488
      rw [z_i352 h, qk_true, show nI (hdr g 0) + 8 = nI (hdr g 0 + 8) from nI_add _ 8, t1, qc_some']
      cases ht : tls g m
      · rw [if_pos (show bI false = 0 from rfl)]
        exact m_506 H' G' w0 false h6
      · rw [if_neg (show ¬ bI true = 0 by decide)]
        exact m_506 H' G' w0 true h6
    unfold f_X12_datagram_453
    by_cases c3 : bt g (hdr g 0) = 3
    · rw [if_pos (z3.mpr c3)]; exact ⟨S', c488 (by unfold rpt; exact decide_eq_true (by omega))⟩
    rw [if_neg (fun e => c3 (z3.mp e))]
    by_cases c4 : bt g (hdr g 0) = 4
    · rw [if_pos (z4.mpr c4)]; exact ⟨S', c488 (by unfold rpt; exact decide_eq_true (by omega))⟩
    rw [if_neg (fun e => c4 (z4.mp e))]
    by_cases c5 : bt g (hdr g 0) = 5
    · rw [if_pos (z5.mpr c5)]; exact ⟨S', c488 (by unfold rpt; exact decide_eq_true (by omega))⟩
    rw [if_neg (fun e => c5 (z5.mp e))]
    by_cases c11 : bt g (hdr g 0) = 11
    · rw [if_pos (z11.mpr c11)]; exact ⟨S', c488 (by unfold rpt; exact decide_eq_true (by omega))⟩
    rw [if_neg (fun e => c11 (z11.mp e))]
    by_cases c12 : bt g (hdr g 0) = 12
    · rw [if_pos (z12.mpr c12)]; exact ⟨S', c488 (by unfold rpt; exact decide_eq_true (by omega))⟩
    rw [if_neg (fun e => c12 (z12.mp e))]
    have tf : tls g m = false := tls_f (fun e => by
      have := e.2.1
      unfold rpt at this
      have := of_decide_eq_true this
      omega)
    refine ⟨S, ?_, Or.inl ⟨tf, rfl⟩⟩
    rw [tf]
    exact m_506 h hg w0 false h6
  · rw [if_neg c1] at hty
    have tf : tls g m = false := tls_f (fun e => c1 e.1)
    refine ⟨S, ?_, Or.inl ⟨tf, rfl⟩⟩
    unfold f_X12_datagram_453
    rw [hty, if_neg (by decide), if_neg (by decide), if_neg (by decide), if_neg (by decide), if_neg (by decide), tf]
    exact m_506 h hg w0 false h6
theorem m_411 (h : Sh S) (hg : xI S 353 = g) (hm : m ≤ 2100) (w0 : Nat) (h6 : bt g 9 = 6 → hdr g 0 + 20 ≤ 2100) (h8 : hsb (bt g 9) = true → hdr g 0 + 8 ≤ m) {ty : Int32} (hty : ty = if bt g 9 = 1 then nI (bt g (hdr g 0)) else -1) : ∃ S', f_X12_datagram_411 F 352 (nI w0) (nI m) (nI (hdr g 0)) (nI (bt g 9)) (bI (decide (bt g 9 = 6 ∨ bt g 9 = 17))) ty (nI (pgs g 0)) S = dgK F (sI S' 941 352 (bI (tls g m))) w0 g ∧ ((tls g m = false ∧ S' = S) ∨ (tls g m = true ∧ ∃ tr, S' = rI S 371 tr ∧ ∀ j, j < 5 → tr j = nI (pg g (hdr g 0 + 8) (j + 1)))) := by
  have bT := bt_lt g (hdr g 0)
  have c453 := m_453 (F := F) h hg hm w0 h6 (fun e => h8 (by unfold hsb; exact decide_eq_true (by omega))) hty
  have pt0 : pgt g 0 = hdr g 0 := Nat.zero_add _
  unfold f_X12_datagram_411
  by_cases pp : bt g 9 = 6 ∨ bt g 9 = 17
  · have t8 := h8 (by unfold hsb; exact decide_eq_true (by omega))
    have ed : pgd g 0 = wd g (hdr g 0 + 2) := by
      unfold pgd
      rw [Nat.zero_add, if_pos pp, pt0]
    rw [decide_eq_true pp, if_neg (show ¬ bI true = 0 by decide), z_i352 h, qk_true, show nI (hdr g 0) + 2 = nI (hdr g 0 + 2) from nI_add _ 2, m_two h hg (by omega), qc_some', ← ed]
    exact c453
  · rw [decide_eq_false pp, if_pos (show bI false = 0 from rfl)]
    by_cases c1 : bt g 9 = 1
    · have t8 := h8 (by unfold hsb; exact decide_eq_true (by omega))
      have hty' := hty
      rw [if_pos c1] at hty'
      have z0 : ty = 0 ↔ bt g (hdr g 0) = 0 := by rw [hty']; exact nI_eq (b := 0) (by omega) (by omega)
      have z8 : ty = 8 ↔ bt g (hdr g 0) = 8 := by rw [hty']; exact nI_eq (b := 8) (by omega) (by omega)
      have c441 : (bt g (hdr g 0) = 0 ∨ bt g (hdr g 0) = 8) → f_X12_datagram_441 F 352 (nI w0) (nI m) (nI (hdr g 0)) (nI (bt g 9)) ty (nI (pgs g 0)) S = f_X12_datagram_453 F 352 (nI w0) (nI m) (nI (hdr g 0)) (nI (bt g 9)) ty (nI (pgs g 0)) (nI (pgd g 0)) S := by
        intro e
        have ed : pgd g 0 = wd g (hdr g 0 + 4) := by
          unfold pgd
          rw [Nat.zero_add, if_neg pp, pt0, if_pos ⟨c1, e⟩]
        unfold f_X12_datagram_441
        rw [z_i352 h, qk_true, show nI (hdr g 0) + 4 = nI (hdr g 0 + 4) from nI_add _ 4, m_two h hg (by omega), qc_some', ed]
      by_cases e0 : bt g (hdr g 0) = 0
      · rw [if_pos (z0.mpr e0), c441 (Or.inl e0)]; exact c453
      rw [if_neg (fun e => e0 (z0.mp e))]
      by_cases e8 : bt g (hdr g 0) = 8
      · rw [if_pos (z8.mpr e8), c441 (Or.inr e8)]; exact c453
      · have ed : pgd g 0 = 0 := by
          unfold pgd
          rw [Nat.zero_add, if_neg pp, pt0, if_neg (fun e => e.2.elim e0 e8)]
        rw [if_neg (fun e => e8 (z8.mp e))]
        rw [ed] at c453
        exact c453
    · have ed : pgd g 0 = 0 := by
        unfold pgd
        rw [Nat.zero_add, if_neg pp, if_neg (fun e => c1 e.1)]
      have hty' := hty
      rw [if_neg c1] at hty'
      rw [ed] at c453
      rw [if_neg (by rw [hty']; decide), if_neg (by rw [hty']; decide)]
      exact c453
theorem m_341 (h : Sh S) (hg : xI S 353 = g) (hm : m ≤ 2100) (w0 : Nat) (h6 : bt g 9 = 6 → hdr g 0 + 20 ≤ 2100) (h8 : hsb (bt g 9) = true → hdr g 0 + 8 ≤ m) : ∃ S', f_X12_datagram_341 F 352 (nI w0) (nI m) (nI (hdr g 0)) (nI (bt g 9)) S = dgK F (sI S' 941 352 (bI (tls g m))) w0 g ∧ ((tls g m = false ∧ S' = sI S 918 352 0) ∨ (tls g m = true ∧ ∃ tr, S' = rI (sI S 918 352 0) 371 tr ∧ ∀ j, j < 5 → tr j = nI (pg g (hdr g 0 + 8) (j + 1)))) := by
  have H := Sh_sI h 918 352 0
  have G : xI (sI S 918 352 0) 353 = g := hg
  have b9 := bt_lt g 9
  have z6 : nI (bt g 9) = 6 ↔ bt g 9 = 6 := nI_eq (b := 6) (by omega) (by omega)
  have z17 : nI (bt g 9) = 17 ↔ bt g 9 = 17 := nI_eq (b := 17) (by omega) (by omega)
  have z1 : nI (bt g 9) = 1 ↔ bt g 9 = 1 := nI_eq (b := 1) (by omega) (by omega)
  have pt0 : pgt g 0 = hdr g 0 := Nat.zero_add _
  have c411 := fun ty hty => m_411 (F := F) (ty := ty) H G hm w0 h6 h8 hty
  have c388 : ∀ ty, (ty = if bt g 9 = 1 then nI (bt g (hdr g 0)) else -1) → f_X12_datagram_388 F 352 (nI w0) (nI m) (nI (hdr g 0)) (nI (bt g 9)) (bI (decide (bt g 9 = 6 ∨ bt g 9 = 17))) ty (sI S 918 352 0) = f_X12_datagram_411 F 352 (nI w0) (nI m) (nI (hdr g 0)) (nI (bt g 9)) (bI (decide (bt g 9 = 6 ∨ bt g 9 = 17))) ty (nI (pgs g 0)) (sI S 918 352 0) := by
    intro ty hty
    have c401 : hsb (bt g 9) = true → f_X12_datagram_401 F 352 (nI w0) (nI m) (nI (hdr g 0)) (nI (bt g 9)) (bI (decide (bt g 9 = 6 ∨ bt g 9 = 17))) ty (sI S 918 352 0) = f_X12_datagram_411 F 352 (nI w0) (nI m) (nI (hdr g 0)) (nI (bt g 9)) (bI (decide (bt g 9 = 6 ∨ bt g 9 = 17))) ty (nI (pgs g 0)) (sI S 918 352 0) := by
      intro hb
      have t8 := h8 hb
      have ev : pgs g 0 = wd g (hdr g 0) := by unfold pgs; rw [Nat.zero_add, if_pos hb, pt0]
      unfold f_X12_datagram_401
      rw [z_i352 H, qk_true, m_two H G (by omega), qc_some', ev]
    unfold f_X12_datagram_388
    by_cases pp : bt g 9 = 6 ∨ bt g 9 = 17
    · rw [if_neg (by rw [decide_eq_true pp]; decide)]
      exact c401 (by unfold hsb; exact decide_eq_true (by omega))
    · rw [if_pos (show bI (decide (bt g 9 = 6 ∨ bt g 9 = 17)) = 0 by rw [decide_eq_false pp]; rfl)]
      by_cases c1 : bt g 9 = 1
      · rw [if_pos (z1.mpr c1)]
        exact c401 (by unfold hsb; exact decide_eq_true (by omega))
      · have ev : pgs g 0 = 0 := by
          unfold pgs hsb
          rw [Nat.zero_add, decide_eq_false (by omega), if_neg (by decide)]
        rw [if_neg (fun e => c1 (z1.mp e)), ev]
        rfl
  have c365 : ∃ S', f_X12_datagram_365 F 352 (nI w0) (nI m) (nI (hdr g 0)) (nI (bt g 9)) (bI (decide (bt g 9 = 6 ∨ bt g 9 = 17))) (sI S 918 352 0) = dgK F (sI S' 941 352 (bI (tls g m))) w0 g ∧ ((tls g m = false ∧ S' = sI S 918 352 0) ∨ (tls g m = true ∧ ∃ tr, S' = rI (sI S 918 352 0) 371 tr ∧ ∀ j, j < 5 → tr j = nI (pg g (hdr g 0 + 8) (j + 1)))) := by
    unfold f_X12_datagram_365
    by_cases c1 : bt g 9 = 1
    · have t8 := h8 (by unfold hsb; exact decide_eq_true (by omega))
      have bb := m_byte H G (by omega : hdr g 0 < 2100)
      rw [if_pos (z1.mpr c1), z_i352 H, qk_true, z_p901_352 H, qP_some', z_i353 H, qk_true, bb.1, qk_true, qv_eq, bb.2.2, c388 _ (by rw [if_pos c1])]
      exact c411 _ (by rw [if_pos c1])
    · rw [if_neg (fun e => c1 (z1.mp e)), c388 _ (by rw [if_neg c1])]
      exact c411 _ (by rw [if_neg c1])
  unfold f_X12_datagram_341
  rw [z_i352 h, qk_true, qv_eq]
  by_cases c6 : bt g 9 = 6
  · rw [if_pos (z6.mpr c6)]
    rw [decide_eq_true (Or.inl c6)] at c365
    exact c365
  rw [if_neg (fun e => c6 (z6.mp e))]
  by_cases c17 : bt g 9 = 17
  · rw [if_pos (z17.mpr c17)]
    rw [decide_eq_true (Or.inr c17)] at c365
    exact c365
  · rw [if_neg (fun e => c17 (z17.mp e))]
    rw [decide_eq_false (show ¬ (bt g 9 = 6 ∨ bt g 9 = 17) by omega)] at c365
    exact c365
end MDGR
