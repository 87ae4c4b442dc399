section MTALE
variable {S : gk_S} {F m : Nat} {g : Nat → Int32}
theorem okf_hdr {b : Nat} (h : okf b = true) : 64 ≤ b ∧ 4 * (b - 64) = b % 16 * 4 := by
  unfold okf at h
  have := of_decide_eq_true h
  omega
theorem sub_neg {a b : Nat} (ha : a < 2 ^ 30) (hb : b < 2 ^ 30) (k : Nat) (hk : 1 ≤ k) (hk2 : k < 2 ^ 30) : nI k ≤ nI a - nI b ↔ k + b ≤ a := by
  rw [Int32.le_iff_toInt_le, pk_sub_toInt ha hb, nI_toInt (by omega)]
  omega
theorem m_tale (h : Sh S) (hg : xI S 353 = g) (hm : m ≤ 2100) {I : Nat} (hI : I ≤ m) : ∃ S', f_X12_readsTale F S 352 (nI I) (nI m) = some (bI (decide (28 ≤ m - I) && okf (bt g I) && decide (hdr g I + 8 ≤ m - I)), S') ∧ (((decide (28 ≤ m - I) && okf (bt g I) && decide (hdr g I + 8 ≤ m - I)) = false ∧ S' = S) ∨ ((decide (28 ≤ m - I) && okf (bt g I) && decide (hdr g I + 8 ≤ m - I)) = true ∧ ∃ tr, S' = rI S 371 tr ∧ ∀ j, j < 5 → tr j = nI (pg g I (j + 1)))) := by
  have bI' := bt_lt g I
  have hl := hdr_lt g I
  have z28 : (28 : Int32) ≤ nI (m - I) ↔ 28 ≤ m - I := nI_leI (a := 28) (by omega) (by omega)
  unfold f_X12_readsTale
  rw [pk_sub hI]
  by_cases q1 : 28 ≤ m - I
  · rw [if_pos (z28.mpr q1), decide_eq_true q1]
    have bb := m_byte h hg (by omega : I < 2100)
    have z69 : nI (bt g I) < 69 ↔ bt g I < 69 := nI_ltI (b := 69) (by omega) (by omega)
    have z79 : nI (bt g I) ≤ 79 ↔ bt g I ≤ 79 := nI_leI (b := 79) (by omega) (by omega)
    rw [z_i352 h, qk_true, z_p901_352 h, qP_some', z_i353 h, qk_true, bb.1, qk_true, qv_eq, bb.2.2]
    cases ho : okf (bt g I)
    · refine ⟨S, ?_, Or.inl ⟨rfl, rfl⟩⟩
      unfold okf at ho
      have ho := of_decide_eq_false ho
      by_cases c : bt g I < 69
      · rw [if_pos (z69.mpr c)]; rfl
      · rw [if_neg (fun e => c (z69.mp e)), if_neg (fun e => ho ⟨by omega, z79.mp e⟩)]; rfl
    · have oh := okf_hdr ho
      have ho2 := ho
      unfold okf at ho2
      have ho2 := of_decide_eq_true ho2
      have eT : nI I + 4 * (nI (bt g I) - 64) = nI (pgt g I) := by
        rw [show (64 : Int32) = nI 64 from rfl, show (4 : Int32) = nI 4 from rfl, pk_sub oh.1, pk_mul, nI_add]
        unfold pgt hdr
        rw [oh.2]
      have tl : pgt g I ≤ I + 60 := by unfold pgt; omega
      rw [if_neg (fun e => by have := z69.mp e; omega), if_pos (z79.mpr ho2.2), qv_eq, eT]
      have z8 : (8 : Int32) ≤ nI m - nI (pgt g I) ↔ 8 + pgt g I ≤ m := sub_neg (by omega) (by omega) 8 (by omega) (by omega)
      have zq : 8 + pgt g I ≤ m ↔ hdr g I + 8 ≤ m - I := by unfold pgt; omega
      by_cases q3 : hdr g I + 8 ≤ m - I
      · have T8 := zq.mpr q3
        rw [if_pos (z8.mpr T8), decide_eq_true q3]
        have b9 := m_byte h hg (by omega : I + 9 < 2100)
        have p9 := bt_lt g (I + 9)
        have z6 : nI (bt g (I + 9)) = 6 ↔ bt g (I + 9) = 6 := nI_eq (b := 6) (by omega) (by omega)
        have z17 : nI (bt g (I + 9)) = 17 ↔ bt g (I + 9) = 17 := nI_eq (b := 17) (by omega) (by omega)
        have z1 : nI (bt g (I + 9)) = 1 ↔ bt g (I + 9) = 1 := nI_eq (b := 1) (by omega) (by omega)
        have HT := fun tr => Sh_rI h 371 tr
        have GT : ∀ tr, xI (rI S 371 tr) 353 = g := fun tr => hg
        have i0 : inb 0 5 = true := rfl
        have i1 : inb 1 5 = true := rfl
        have i2 : inb 2 5 = true := rfl
        have i3 : inb 3 5 = true := rfl
        have i4 : inb 4 5 = true := rfl
        have w0 : wI S 371 0 (nI (bt g (I + 9))) = rI S 371 (upd (xI S 371) 0 (nI (bt g (I + 9)))) := rfl
        -- the last two
        have fin : ∀ (U : Nat → Int32) (x3 x4 : Nat), (∀ j, j < 3 → U j = nI (pg g I (j + 1))) → x3 = pgs g I → x4 = pgd g I → ∀ j, j < 5 → upd (upd U 3 (nI x3)) 4 (nI x4) j = nI (pg g I (j + 1)) := by
          intro U x3 x4 hU e3 e4 j hj
          unfold upd
          by_cases j4 : j = 4
          · rw [if_pos j4, j4, e4]; rfl
          · rw [if_neg j4]
            by_cases j3 : j = 3
            · rw [if_pos j3, j3, e3]; rfl
            · rw [if_neg j3]; exact hU j (by omega)
        have c177 : ∀ (U : Nat → Int32) (pt : Bool) (ty : Int32), (∀ j, j < 3 → U j = nI (pg g I (j + 1))) → (pt = decide (bt g (I + 9) = 6 ∨ bt g (I + 9) = 17)) → (ty = if bt g (I + 9) = 1 then nI (bt g (pgt g I)) else -1) → ∃ tr, f_X12_readsTale_177 F 352 (nI (pgt g I)) (bI pt) ty (nI (pgs g I)) 3 371 (rI S 371 U) = some (1, rI S 371 tr) ∧ ∀ j, j < 5 → tr j = nI (pg g I (j + 1)) := by
          intro U pt ty hU hpt hty
          have bT := bt_lt g (pgt g I)
          unfold f_X12_readsTale_177
          rw [z_i371 (HT _), qk_true, z_l371 (HT _), i3, qk_true, qv_eq, wI_lit, z_i352 (HT _), qk_true, z_p940_352 (HT _), qP_some']
          by_cases pp : bt g (I + 9) = 6 ∨ bt g (I + 9) = 17
          · rw [decide_eq_true pp] at hpt
            rw [hpt, if_neg (show ¬ bI true = 0 by decide), show nI (pgt g I) + 2 = nI (pgt g I + 2) from nI_add _ 2, m_two (HT _) (GT _) (by omega), qc_some', z_i371 (HT _), qk_true, z_l371 (HT _), i4, qk_true, qv_eq, wI_lit]
            refine ⟨_, rfl, fin U _ _ hU rfl ?_⟩
            unfold pgd
            rw [if_pos pp]
          · rw [decide_eq_false pp] at hpt
            rw [hpt, if_pos (show bI false = 0 from rfl)]
            have c211 : f_X12_readsTale_211 F 352 (nI (pgt g I)) 4 371 (rI S 371 (upd U (3 : Int32).toNatClampNeg (nI (pgs g I)))) = some (1, rI S 371 (upd (upd U 3 (nI (pgs g I))) 4 (nI (wd g (pgt g I + 4))))) := by
              unfold f_X12_readsTale_211
              rw [z_i352 (HT _), qk_true, show nI (pgt g I) + 4 = nI (pgt g I + 4) from nI_add _ 4, m_two (HT _) (GT _) (by omega), qc_some', z_i371 (HT _), qk_true, z_l371 (HT _), i4, qk_true, qv_eq, wI_lit]
              rfl
            by_cases p1 : bt g (I + 9) = 1
            · rw [if_pos p1] at hty
              have y0 : nI (bt g (pgt g I)) = 0 ↔ bt g (pgt g I) = 0 := nI_eq (b := 0) (by omega) (by omega)
              have y8 : nI (bt g (pgt g I)) = 8 ↔ bt g (pgt g I) = 8 := nI_eq (b := 8) (by omega) (by omega)
              rw [hty]
              by_cases e0 : bt g (pgt g I) = 0
              · rw [if_pos (y0.mpr e0), c211]
                refine ⟨_, rfl, fin U _ _ hU rfl ?_⟩
                unfold pgd
                rw [if_neg pp, if_pos ⟨p1, Or.inl e0⟩]
              · rw [if_neg (fun e => e0 (y0.mp e))]
                by_cases e8 : bt g (pgt g I) = 8
                · rw [if_pos (y8.mpr e8), c211]
                  refine ⟨_, rfl, fin U _ _ hU rfl ?_⟩
                  unfold pgd
                  rw [if_neg pp, if_pos ⟨p1, Or.inr e8⟩]
                · rw [if_neg (fun e => e8 (y8.mp e)), z_i371 (HT _), qk_true, z_l371 (HT _), i4, qk_true, qv_eq, wI_lit]
                  refine ⟨_, rfl, fin U _ 0 hU rfl ?_⟩
                  unfold pgd
                  rw [if_neg pp, if_neg (fun e => e.2.elim e0 e8)]
            · rw [if_neg p1] at hty
              rw [hty, if_neg (by decide), if_neg (by decide), z_i371 (HT _), qk_true, z_l371 (HT _), i4, qk_true, qv_eq, wI_lit]
              refine ⟨_, rfl, fin U _ 0 hU rfl ?_⟩
              unfold pgd
              rw [if_neg pp, if_neg (fun e => p1 e.1)]
        have c113 : ∀ (pt : Bool) (ty : Int32), (pt = decide (bt g (I + 9) = 6 ∨ bt g (I + 9) = 17)) → (ty = if bt g (I + 9) = 1 then nI (bt g (pgt g I)) else -1) → ∃ tr, f_X12_readsTale_113 F 352 (nI I) (nI (pgt g I)) (nI (bt g (I + 9))) (bI pt) ty S = some (1, rI S 371 tr) ∧ ∀ j, j < 5 → tr j = nI (pg g I (j + 1)) := by
          intro pt ty hpt hty
          have hU : ∀ j, j < 3 → upd (upd (upd (xI S 371) 0 (nI (bt g (I + 9)))) 1 (nI (pga g (I + 12)))) 2 (nI (pga g (I + 16))) j = nI (pg g I (j + 1)) := by
            intro j hj
            have : j = 0 ∨ j = 1 ∨ j = 2 := by omega
            rcases this with rfl | rfl | rfl <;> rfl
          obtain ⟨tr, k1, k2⟩ := c177 _ pt ty hU hpt hty
          refine ⟨tr, ?_, k2⟩
          unfold f_X12_readsTale_113
          rw [z_i352 h, qk_true, z_p940_352 h, qP_some', z_i371 h, qk_true, z_l371 h, i0, qk_true, qv_eq, w0, z_p940_352 (HT _), qP_some', show nI I + 12 = nI (I + 12) from nI_add _ 12, m_addr (HT _) (GT _) (by omega), qc_some', z_i371 (HT _), qk_true, z_l371 (HT _), i1, qk_true, qv_eq, wI_lit, z_i352 (HT _), qk_true, z_p940_352 (HT _), qP_some', show nI I + 16 = nI (I + 16) from nI_add _ 16, m_addr (HT _) (GT _) (by omega), qc_some', z_i371 (HT _), qk_true, z_l371 (HT _), i2, qk_true, qv_eq, wI_lit, z_i352 (HT _), qk_true, z_p940_352 (HT _), qP_some']
          have c167 : (hsb (bt g (I + 9)) = true) → f_X12_readsTale_167 F 352 (nI (pgt g I)) (bI pt) ty 3 371 (rI S 371 (upd (upd (upd (xI S 371) 0 (nI (bt g (I + 9)))) (1 : Int32).toNatClampNeg (nI (65536 * wd g (I + 12) + wd g (I + 12 + 2)))) (2 : Int32).toNatClampNeg (nI (65536 * wd g (I + 16) + wd g (I + 16 + 2))))) = some (1, rI S 371 tr) := by
            intro hb
            have ev : pgs g I = wd g (pgt g I) := by unfold pgs; rw [if_pos hb]
            rw [ev] at k1
            unfold f_X12_readsTale_167
            rw [z_i352 (HT _), qk_true, m_two (HT _) (GT _) (by omega), qc_some']
            exact k1
          by_cases pp : bt g (I + 9) = 6 ∨ bt g (I + 9) = 17
          · have hb : hsb (bt g (I + 9)) = true := by unfold hsb; exact decide_eq_true (by omega)
            have hpt2 := hpt
            rw [decide_eq_true pp] at hpt2
            rw [if_neg (show ¬ bI pt = 0 by rw [hpt2]; decide)]
            exact c167 hb
          · have hpt2 := hpt
            rw [decide_eq_false pp] at hpt2
            rw [if_pos (show bI pt = 0 by rw [hpt2]; rfl)]
            by_cases p1 : bt g (I + 9) = 1
            · have hb : hsb (bt g (I + 9)) = true := by unfold hsb; exact decide_eq_true (by omega)
              rw [if_pos (z1.mpr p1)]
              exact c167 hb
            · have ev : pgs g I = 0 := by
                unfold pgs hsb
                rw [decide_eq_false (by omega), if_neg (by decide)]
              rw [ev] at k1
              rw [if_neg (fun e => p1 (z1.mp e))]
              exact k1
        have c90 : ∀ (pt : Bool), (pt = decide (bt g (I + 9) = 6 ∨ bt g (I + 9) = 17)) → ∃ tr, f_X12_readsTale_90 F 352 (nI I) (nI (pgt g I)) (nI (bt g (I + 9))) (bI pt) S = some (1, rI S 371 tr) ∧ ∀ j, j < 5 → tr j = nI (pg g I (j + 1)) := by
          intro pt hpt
          unfold f_X12_readsTale_90
          by_cases p1 : bt g (I + 9) = 1
          · have bT := m_byte h hg (by omega : pgt g I < 2100)
            rw [if_pos (z1.mpr p1), z_i352 h, qk_true, z_p901_352 h, qP_some', z_i353 h, qk_true, bT.1, qk_true, qv_eq, bT.2.2]
            exact c113 pt _ hpt (by rw [if_pos p1])
          · rw [if_neg (fun e => p1 (z1.mp e))]
            exact c113 pt _ hpt (by rw [if_neg p1])
        rw [qP_some', z_i353 h, qk_true, show nI I + 9 = nI (I + 9) from nI_add _ 9, b9.1, qk_true, qv_eq, b9.2.2]
        have fin2 : ∃ tr, (if nI (bt g (I + 9)) = 6 then f_X12_readsTale_90 F 352 (nI I) (nI (pgt g I)) (nI (bt g (I + 9))) 1 S else if nI (bt g (I + 9)) = 17 then f_X12_readsTale_90 F 352 (nI I) (nI (pgt g I)) (nI (bt g (I + 9))) 1 S else f_X12_readsTale_90 F 352 (nI I) (nI (pgt g I)) (nI (bt g (I + 9))) 0 S) = some (1, rI S 371 tr) ∧ ∀ j, j < 5 → tr j = nI (pg g I (j + 1)) := by
          by_cases p6 : bt g (I + 9) = 6
          · rw [if_pos (z6.mpr p6)]
            exact c90 true (by rw [decide_eq_true (Or.inl p6)])
          · rw [if_neg (fun e => p6 (z6.mp e))]
            by_cases p17 : bt g (I + 9) = 17
            · rw [if_pos (z17.mpr p17)]
              exact c90 true (by rw [decide_eq_true (Or.inr p17)])
            · rw [if_neg (fun e => p17 (z17.mp e))]
              exact c90 false (by rw [decide_eq_false (by omega)])
        obtain ⟨tr, k1, k2⟩ := fin2
        exact ⟨rI S 371 tr, by rw [k1]; rfl, Or.inr ⟨rfl, tr, rfl, k2⟩⟩
      · rw [if_neg (fun e => q3 (zq.mp (z8.mp e))), decide_eq_false q3]
        exact ⟨S, rfl, Or.inl ⟨rfl, rfl⟩⟩
  · rw [if_neg (fun e => q1 (z28.mp e)), decide_eq_false q1]
    exact ⟨S, rfl, Or.inl ⟨rfl, rfl⟩⟩
end MTALE
