section MDG2
variable {S : gk_S} {F m : Nat} {g : Nat → Int32}
theorem m_fty (h : Sh S) (k : Int32) (p : Int32) : f_X12_faulty F S 352 k p = some ((-1) - p, sI S 918 352 k) := by
  unfold f_X12_faulty
  rw [z_i352 h, qk_true, qv_eq]
theorem smd_f (h : hsb (bt g 9) = true) (h17 : bt g 9 = 17 → ¬ wd g (hdr g 0 + 6) = 0) (hs : ¬ fd (fd (sed g m (hdr g 0) + rsm g m (hdr g 0))) = 65535) : smd g m (hdr g 0) = false := by
  unfold smd
  rw [h, decide_eq_false hs]
  by_cases c : bt g 9 = 17
  · rw [decide_eq_false (h17 c)]; simp
  · rw [decide_eq_false c]; rfl
theorem m_249 (h : Sh S) (hg : xI S 353 = g) (hF : 16400 ≤ F) (hm : m ≤ 2100) (h20 : 20 ≤ m) (hT : hdr g 0 ≤ m) (hw : whl g m (hdr g 0) = true) (w0 : Nat) (b : Bool) (hb : b = (decide (bt g 9 = 17) && decide (wd g (hdr g 0 + 6) = 0))) :
    (smd g m (hdr g 0) = false → f_X12_datagram_249 F 352 (nI w0) (nI m) (nI (hdr g 0)) (nI (bt g 9)) (nI (wd g 12 + wd g 14 + wd g 16 + wd g 18 + bt g 9 + (m - hdr g 0))) (bI b) S = some ((-1) - nI (hdr g 0 + spl (bt g 9)), sI S 918 352 7)) ∧
    (smd g m (hdr g 0) = true → f_X12_datagram_249 F 352 (nI w0) (nI m) (nI (hdr g 0)) (nI (bt g 9)) (nI (wd g 12 + wd g 14 + wd g 16 + wd g 18 + bt g 9 + (m - hdr g 0))) (bI b) S = f_X12_datagram_341 F 352 (nI w0) (nI m) (nI (hdr g 0)) (nI (bt g 9)) S) := by
  have b9 := bt_lt g 9
  have hl := hdr_lt g 0
  have z6 : nI (bt g 9) = 6 ↔ bt g 9 = 6 := nI_eq (b := 6) (by omega) (by omega)
  have z17 : nI (bt g 9) = 17 ↔ bt g 9 = 17 := nI_eq (b := 17) (by omega) (by omega)
  have z1 : nI (bt g 9) = 1 ↔ bt g 9 = 1 := nI_eq (b := 1) (by omega) (by omega)
  have sl := sed_lt g (T := hdr g 0) hm
  have fl : ∀ A, A < 1000000 → fd (fd (A + rsm g m (hdr g 0))) < 2 ^ 31 := by
    intro A hA
    have := rsm_le g m (hdr g 0)
    unfold fd
    omega
  have zs : ∀ A, A < 1000000 → (nI (fd (fd (A + rsm g m (hdr g 0)))) = 65535 ↔ fd (fd (A + rsm g m (hdr g 0))) = 65535) := fun A hA => nI_eq (b := 65535) (fl A hA) (by omega)
  have c311 : bt g 9 ≠ 1 → f_X12_datagram_311 F 352 (nI w0) (nI m) (nI (hdr g 0)) (nI (bt g 9)) S = f_X12_datagram_341 F 352 (nI w0) (nI m) (nI (hdr g 0)) (nI (bt g 9)) S := by
    intro e
    unfold f_X12_datagram_311
    rw [if_neg (fun q => e (z1.mp q))]
  by_cases pp : bt g 9 = 6 ∨ bt g 9 = 17
  · have es : sed g m (hdr g 0) = wd g 12 + wd g 14 + wd g 16 + wd g 18 + bt g 9 + (m - hdr g 0) := by unfold sed; rw [if_pos pp]
    have hh : hsb (bt g 9) = true := by unfold hsb; exact decide_eq_true (by omega)
    have sm := m_sum (F := F) h hg hF hm hT sl
    rw [← es]
    have c270 : f_X12_datagram_270 F 352 (nI w0) (nI m) (nI (hdr g 0)) (nI (bt g 9)) (nI (sed g m (hdr g 0))) S = if fd (fd (sed g m (hdr g 0) + rsm g m (hdr g 0))) = 65535 then f_X12_datagram_341 F 352 (nI w0) (nI m) (nI (hdr g 0)) (nI (bt g 9)) S else some ((-1) - nI (hdr g 0 + spl (bt g 9)), sI S 918 352 7) := by
      unfold f_X12_datagram_270
      rw [z_i352 h, qk_true, sm, qc_some']
      by_cases q : fd (fd (sed g m (hdr g 0) + rsm g m (hdr g 0))) = 65535
      · rw [if_pos ((zs _ sl).mpr q), if_pos q, c311 (by omega)]
      · rw [if_neg (fun e => q ((zs _ sl).mp e)), if_neg q]
        unfold f_X12_datagram_307 spl
        by_cases c6 : bt g 9 = 6
        · rw [if_pos (z6.mpr c6), if_pos c6, z_i352 h, qk_true, m_fty h, qc_some', show nI (hdr g 0) + 16 = nI (hdr g 0 + 16) from nI_add _ 16]
        · rw [if_neg (fun e => c6 (z6.mp e)), if_neg c6, if_pos (show bt g 9 = 17 by omega), z_i352 h, qk_true, m_fty h, qc_some', show nI (hdr g 0) + 6 = nI (hdr g 0 + 6) from nI_add _ 6]
    have e249 : f_X12_datagram_249 F 352 (nI w0) (nI m) (nI (hdr g 0)) (nI (bt g 9)) (nI (sed g m (hdr g 0))) (bI b) S = if b = true then f_X12_datagram_341 F 352 (nI w0) (nI m) (nI (hdr g 0)) (nI (bt g 9)) S else f_X12_datagram_270 F 352 (nI w0) (nI m) (nI (hdr g 0)) (nI (bt g 9)) (nI (sed g m (hdr g 0))) S := by
      unfold f_X12_datagram_249
      by_cases c6 : bt g 9 = 6
      · rw [decide_eq_false (show ¬ bt g 9 = 17 by omega), Bool.false_and] at hb
        rw [if_pos (z6.mpr c6), hb, if_neg (by decide)]
      · rw [if_neg (fun e => c6 (z6.mp e)), if_pos (z17.mpr (by omega))]
        cases b
        · rw [if_pos b_f, if_neg (by decide)]
        · rw [if_neg (show ¬ bI true = 0 by decide), if_pos rfl, c311 (by omega)]
    rw [e249, c270]
    cases b
    · rw [if_neg (by decide)]
      have h17 : bt g 9 = 17 → ¬ wd g (hdr g 0 + 6) = 0 := by
        intro e e0
        rw [decide_eq_true e, decide_eq_true e0] at hb
        exact absurd hb (by decide)
      by_cases q : fd (fd (sed g m (hdr g 0) + rsm g m (hdr g 0))) = 65535
      · rw [if_pos q]
        have : smd g m (hdr g 0) = true := by unfold smd; rw [decide_eq_true q, Bool.or_true]
        exact ⟨fun e => absurd (this.symm.trans e) (by decide), fun _ => rfl⟩
      · rw [if_neg q]
        have := smd_f hh h17 q
        exact ⟨fun _ => rfl, fun e => absurd (this.symm.trans e) (by decide)⟩
    · rw [if_pos rfl]
      have : smd g m (hdr g 0) = true := by unfold smd; rw [← hb, Bool.or_true, Bool.true_or]
      exact ⟨fun e => absurd (this.symm.trans e) (by decide), fun _ => rfl⟩
  · have e249 : f_X12_datagram_249 F 352 (nI w0) (nI m) (nI (hdr g 0)) (nI (bt g 9)) (nI (wd g 12 + wd g 14 + wd g 16 + wd g 18 + bt g 9 + (m - hdr g 0))) (bI b) S = f_X12_datagram_311 F 352 (nI w0) (nI m) (nI (hdr g 0)) (nI (bt g 9)) S := by
      unfold f_X12_datagram_249
      rw [if_neg (fun e => pp (Or.inl (z6.mp e))), if_neg (fun e => pp (Or.inr (z17.mp e)))]
    rw [e249]
    by_cases c1 : bt g 9 = 1
    · have es : sed g m (hdr g 0) = 0 := by unfold sed; rw [if_neg pp]
      have hh : hsb (bt g 9) = true := by unfold hsb; exact decide_eq_true (by omega)
      have sm : f_X12_summed F S 352 (nI (hdr g 0)) (nI m) 0 = some (nI (fd (fd (0 + rsm g m (hdr g 0)))), S) := m_sum (F := F) (A := 0) h hg hF hm hT (by omega)
      unfold f_X12_datagram_311
      rw [if_pos (z1.mpr c1), z_i352 h, qk_true, sm, qc_some']
      by_cases q : fd (fd (0 + rsm g m (hdr g 0))) = 65535
      · rw [if_pos ((zs 0 (by omega)).mpr q)]
        have : smd g m (hdr g 0) = true := by unfold smd; rw [es, decide_eq_true q, Bool.or_true]
        exact ⟨fun e => absurd (this.symm.trans e) (by decide), fun _ => rfl⟩
      · rw [if_neg (fun e => q ((zs 0 (by omega)).mp e)), z_i352 h, qk_true, m_fty h, qc_some', show nI (hdr g 0) + 2 = nI (hdr g 0 + 2) from nI_add _ 2]
        have := smd_f (m := m) hh (fun e => by omega) (by rw [es]; exact q)
        refine ⟨fun _ => ?_, fun e => absurd (this.symm.trans e) (by decide)⟩
        unfold spl
        rw [if_neg (by omega), if_neg (by omega)]
    · rw [c311 c1]
      have : smd g m (hdr g 0) = true := by
        unfold smd hsb
        rw [decide_eq_false (show ¬ (bt g 9 = 6 ∨ bt g 9 = 17 ∨ bt g 9 = 1) by omega)]
        rfl
      exact ⟨fun e => absurd (this.symm.trans e) (by decide), fun _ => rfl⟩
theorem m_dgB (h : Sh S) (hg : xI S 353 = g) (hF : 16400 ≤ F) (hm : m ≤ 2100) (h20 : 20 ≤ m) (hT : hdr g 0 ≤ m) (hw : whl g m (hdr g 0) = true) (w0 : Nat) :
    (smd g m (hdr g 0) = false → (qk (isb S 352 9) <| qc (f_X12_two F S 352 12) fun x118 S119 => qk (isb S119 352 9) <| qc (f_X12_two F S119 352 14) fun x124 S125 => qk (isb S125 352 9) <| qc (f_X12_two F S125 352 16) fun x130 S131 => qk (isb S131 352 9) <| qc (f_X12_two F S131 352 18) fun x136 S137 => qv ((((((x118 + x124) + x130) + x136) + nI (bt g 9)) + (nI m - nI (hdr g 0)))) fun x140 => if nI (bt g 9) = (17 : Int32) then (qk (isb S137 352 9) <| qc (f_X12_two F S137 352 (nI (hdr g 0) + 6)) fun x293 S294 => if x293 = (0 : Int32) then (f_X12_datagram_249 F 352 (nI w0) (nI m) (nI (hdr g 0)) (nI (bt g 9)) x140 1 S294) else f_X12_datagram_249 F 352 (nI w0) (nI m) (nI (hdr g 0)) (nI (bt g 9)) x140 0 S294) else f_X12_datagram_249 F 352 (nI w0) (nI m) (nI (hdr g 0)) (nI (bt g 9)) x140 0 S137) = some ((-1) - nI (hdr g 0 + spl (bt g 9)), sI S 918 352 7)) ∧
    (smd g m (hdr g 0) = true → (qk (isb S 352 9) <| qc (f_X12_two F S 352 12) fun x118 S119 => qk (isb S119 352 9) <| qc (f_X12_two F S119 352 14) fun x124 S125 => qk (isb S125 352 9) <| qc (f_X12_two F S125 352 16) fun x130 S131 => qk (isb S131 352 9) <| qc (f_X12_two F S131 352 18) fun x136 S137 => qv ((((((x118 + x124) + x130) + x136) + nI (bt g 9)) + (nI m - nI (hdr g 0)))) fun x140 => if nI (bt g 9) = (17 : Int32) then (qk (isb S137 352 9) <| qc (f_X12_two F S137 352 (nI (hdr g 0) + 6)) fun x293 S294 => if x293 = (0 : Int32) then (f_X12_datagram_249 F 352 (nI w0) (nI m) (nI (hdr g 0)) (nI (bt g 9)) x140 1 S294) else f_X12_datagram_249 F 352 (nI w0) (nI m) (nI (hdr g 0)) (nI (bt g 9)) x140 0 S294) else f_X12_datagram_249 F 352 (nI w0) (nI m) (nI (hdr g 0)) (nI (bt g 9)) x140 0 S137) = f_X12_datagram_341 F 352 (nI w0) (nI m) (nI (hdr g 0)) (nI (bt g 9)) S) := by
  have b9 := bt_lt g 9
  have hl := hdr_lt g 0
  have z17 : nI (bt g 9) = 17 ↔ bt g 9 = 17 := nI_eq (b := 17) (by omega) (by omega)
  have p12 : f_X12_two F S 352 12 = some (nI (wd g 12), S) := m_two h hg (by omega : 12 + 1 < 2100)
  have p14 : f_X12_two F S 352 14 = some (nI (wd g 14), S) := m_two h hg (by omega : 14 + 1 < 2100)
  have p16 : f_X12_two F S 352 16 = some (nI (wd g 16), S) := m_two h hg (by omega : 16 + 1 < 2100)
  have p18 : f_X12_two F S 352 18 = some (nI (wd g 18), S) := m_two h hg (by omega : 18 + 1 < 2100)
  have key := m_249 (F := F) h hg hF hm h20 hT hw w0 (decide (bt g 9 = 17) && decide (wd g (hdr g 0 + 6) = 0)) rfl
  rw [z_i352 h, qk_true, p12, qc_some', z_i352 h, qk_true, p14, qc_some', z_i352 h, qk_true, p16, qc_some', z_i352 h, qk_true, p18, qc_some', qv_eq, pk_sub hT, nI_add, nI_add, nI_add, nI_add, nI_add]
  by_cases c : bt g 9 = 17
  · have w6 := wd_lt g (hdr g 0 + 6)
    have zw : nI (wd g (hdr g 0 + 6)) = 0 ↔ wd g (hdr g 0 + 6) = 0 := nI_eq (b := 0) (by omega) (by omega)
    rw [if_pos (z17.mpr c), z_i352 h, qk_true, show nI (hdr g 0) + 6 = nI (hdr g 0 + 6) from nI_add _ 6, m_two h hg (by omega), qc_some']
    by_cases q : wd g (hdr g 0 + 6) = 0
    · rw [if_pos (zw.mpr q)]
      rw [decide_eq_true c, decide_eq_true q] at key
      exact key
    · rw [if_neg (fun e => q (zw.mp e))]
      rw [decide_eq_true c, decide_eq_false q] at key
      exact key
  · rw [if_neg (fun e => c (z17.mp e))]
    rw [decide_eq_false c] at key
    exact key
end MDG2
