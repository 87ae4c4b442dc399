/-! the model's addresses; its next token -/
section MTA
variable {S T : gk_S} {F m : Nat} {b : Nat → Nat}
theorem v_x (h : MD T b m) {p : Nat} (hp : p < m) (hX : cX (b p) = true) (l1 l2 l3 l4 : Int32) (fu : Nat) (e4 : gI T 904 352 = nI p) : f_X12_readAddress_14 F (fu + 1) 352 l1 l2 l3 l4 T = f_X12_readAddress_55 F (f_X12_readAddress_14 F fu) 352 l1 l2 l3 l4 T := by
  have m2 := h.2.2.1
  have a := v_bat (F := F) h (show p < 2 ^ 31 by omega)
  have pm : decide (p < m) = true := decide_eq_true hp
  rw [f_X12_readAddress_14, z_i352 h.1, qk_true, qv_eq, e4, a, qc_some', v_sml h, qc_some', pm, Bool.true_and]
  cases hL : cL (b p)
  · rw [if_pos (show bI false = 0 from rfl), z_i352 h.1, qk_true, qv_eq, e4, a, qc_some', v_dig h, qc_some', pm, Bool.true_and]
    cases hD : cD (b p)
    · have c46 : b p = 46 := by
        unfold cX cA at hX
        rw [hL, hD] at hX
        exact of_decide_eq_true hX
      have z : mb b m p = 46 := (mb_eq h p (c := 46) (by omega)).mpr ⟨hp, c46⟩
      rw [if_pos (show bI false = 0 from rfl), z_i352 h.1, qk_true, qv_eq, e4, a, qc_some', z, if_pos rfl]
    · rw [if_neg (show ¬ bI true = 0 by decide)]
  · rw [if_neg (show ¬ bI true = 0 by decide)]
theorem v_xe (h : MD T b m) {p : Nat} (hp : p ≤ m) (hX : p < m → cX (b p) = false) : (decide (p < m) && cL (b p)) = false ∧ (decide (p < m) && cD (b p)) = false ∧ ¬ mb b m p = 46 := by
  by_cases c : p < m
  · have hx := hX c
    unfold cX at hx
    have h1 : cA (b p) = false := by cases e : cA (b p); rfl; rw [e, Bool.true_or] at hx; exact hx
    have h2 : ¬ b p = 46 := by
      rw [h1, Bool.false_or] at hx
      exact of_decide_eq_false hx
    have := cA_f h1
    rw [this.1, this.2, Bool.and_false]
    exact ⟨rfl, rfl, fun e => h2 ((mb_eq h p (c := 46) (by omega)).mp e).2⟩
  · rw [decide_eq_false c]
    exact ⟨rfl, rfl, fun e => c ((mb_eq h p (c := 46) (by omega)).mp e).1⟩
/-- an address that is none stays none -/
theorem v_raF {ea : Nat} (he : ea ≤ m) (hE : ea < m → cX (b ea) = false) : ∀ d k fu (T : gk_S) l1 l2 l3, MD T b m → gI T 904 352 = nI k → k + d = ea → (∀ i, k ≤ i → i < ea → cX (b i) = true) → d < fu → ∃ T', f_X12_readAddress_14 F fu 352 l1 l2 l3 0 T = some ((), T') ∧ Frm [904, 914] [917] [] [] [] [] T T' ∧ gI T' 914 352 = 5 := by
  intro d
  induction d with
  | zero =>
    intro k fu T l1 l2 l3 h e4 h1 hX h2
    obtain ⟨fu, rfl⟩ : ∃ q, fu = q + 1 := ⟨fu - 1, by omega⟩
    have m2 := h.2.2.1
    have a := v_bat (F := F) h (show k < 2 ^ 31 by omega)
    have ek : k = ea := by omega
    obtain ⟨c1, c2, c3⟩ := v_xe h (p := k) (by omega) (by rw [ek]; exact hE)
    rw [f_X12_readAddress_14, z_i352 h.1, qk_true, qv_eq, e4, a, qc_some', v_sml h, qc_some', c1, if_pos (show bI false = 0 from rfl), z_i352 h.1, qk_true, qv_eq, e4, a, qc_some', v_dig h, qc_some', c2, if_pos (show bI false = 0 from rfl), z_i352 h.1, qk_true, qv_eq, e4, a, qc_some', if_neg c3, z_i352 h.1, qk_true, qv_eq, qv_eq, qv_eq, if_pos rfl, qv_eq]
    exact ⟨_, rfl, Fr_sI (Fr_sJ Fr_refl (by decide) _ _) (by decide) _ _, rd_eq _ _ _ _⟩
  | succ d ih =>
    intro k fu T l1 l2 l3 h e4 h1 hX h2
    obtain ⟨fu, rfl⟩ : ∃ q, fu = q + 1 := ⟨fu - 1, by omega⟩
    have m2 := h.2.2.1
    have a := v_bat (F := F) h (show k < 2 ^ 31 by omega)
    have h' := MD_sI h (f := 904) (by decide) 352 (nI (k + 1))
    rw [v_x h (by omega) (hX k (Nat.le_refl _) (by omega)) l1 l2 l3 0 fu e4]
    unfold f_X12_readAddress_55
    rw [z_i352 h.1, qk_true, qv_eq, e4, a, qc_some', z_i352 h.1, qk_true, qv_eq, e4, qv_eq, nI_1, if_pos rfl, if_pos rfl]
    unfold f_X12_readAddress_96 f_X12_readAddress_148 f_X12_readAddress_169 f_X12_readAddress_189
    by_cases c : mb b m k = 46
    · rw [if_pos c, z_i352 h'.1, qk_true, qv_eq, qv_eq, qv_eq, if_pos rfl]
      obtain ⟨T', r, f, sp⟩ := ih (k + 1) fu (sJ (sI T 904 352 (nI (k + 1))) 917 352 ((gJ (sI T 904 352 (nI (k + 1))) 917 352 <<< ((8 : Int32).toInt64 &&& 63)) ||| l3.toInt64)) (l1 + 1) 0 0 (MD_sJ h' _ _ _) (by rw [rd_J]; exact rd_eq _ _ _ _) (by omega) (fun i i1 i2 => hX i (by omega) i2) (by omega)
      exact ⟨T', r, Fr_trans (Fr_sJ (Fr_sI Fr_refl (by decide) _ _) (by decide) _ _) f, sp⟩
    · rw [if_neg c, if_pos rfl, if_pos rfl, if_pos rfl]
      obtain ⟨T', r, f, sp⟩ := ih (k + 1) fu (sI T 904 352 (nI (k + 1))) l1 (l2 + 1) 0 h' (rd_eq _ _ _ _) (by omega) (fun i i1 i2 => hX i (by omega) i2) (by omega)
      exact ⟨T', r, Fr_trans (Fr_sI Fr_refl (by decide) _ _) f, sp⟩
theorem gg_s (b : Nat → Nat) (k : Nat) : gg b k k = true := by
  unfold gg
  rw [Nat.sub_self, decide_eq_true (by omega)]
  rfl
theorem v_ra14 {ea : Nat} (he : ea ≤ m) (hE : ea < m → cX (b ea) = false) : ∀ d k fu (T : gk_S) gs n v, MD T b m → gI T 904 352 = nI k → gJ T 917 352 = lN v → k + d = ea → (∀ i, k ≤ i → i < ea → cX (b i) = true) → d < fu → gs ≤ k → gg b gs k = true → n < 4 → v < 256 ^ n → ∃ T', f_X12_readAddress_14 F fu 352 (nI (n + 1)) (nI (k - gs)) (nI (nv b (k - gs) gs 0)) 1 T = some ((), T') ∧ Frm [904, 914] [917] [] [] [] [] T T' ∧ ((∃ w, adr b d k gs n v = some w ∧ gI T' 914 352 = 3 ∧ gI T' 904 352 = nI ea ∧ gJ T' 917 352 = lN w) ∨ (adr b d k gs n v = none ∧ gI T' 914 352 = 5)) := by
  intro d
  induction d with
  | zero =>
    intro k fu T gs n v h e4 e7 h1 hX h2 hg hG hn hv
    obtain ⟨fu, rfl⟩ : ∃ q, fu = q + 1 := ⟨fu - 1, by omega⟩
    have m2 := h.2.2.1
    have a := v_bat (F := F) h (show k < 2 ^ 31 by omega)
    have ek : k = ea := by omega
    have gv : nv b (k - gs) gs 0 < 256 ∧ k ≤ gs + 3 := by
      unfold gg at hG
      simp only [Bool.and_eq_true, decide_eq_true_eq] at hG
      exact ⟨hG.2.2, hG.1⟩
    have v3 : v < 2 ^ 50 := Nat.lt_of_lt_of_le hv (Nat.le_trans (Nat.pow_le_pow_right (by decide) (by omega : n ≤ 3)) (by decide))
    obtain ⟨c1, c2, c3⟩ := v_xe h (p := k) (by omega) (by rw [ek]; exact hE)
    have z4 : nI (n + 1) = 4 ↔ n + 1 = 4 := nI_eq (b := 4) (by omega) (by omega)
    have z0 : nI (k - gs) ≤ 0 ↔ k - gs ≤ 0 := nI_leI (b := 0) (by omega) (by omega)
    rw [f_X12_readAddress_14, z_i352 h.1, qk_true, qv_eq, e4, a, qc_some', v_sml h, qc_some', c1, if_pos (show bI false = 0 from rfl), z_i352 h.1, qk_true, qv_eq, e4, a, qc_some', v_dig h, qc_some', c2, if_pos (show bI false = 0 from rfl), z_i352 h.1, qk_true, qv_eq, e4, a, qc_some', if_neg c3, z_i352 h.1, qk_true, qv_eq, qv_eq, qv_eq, e7, nI_l (by omega), l_or8 v3 gv.1, if_neg one_ne, adr]
    by_cases c4 : n + 1 = 4
    · rw [if_pos (z4.mpr c4)]
      by_cases c0 : k - gs ≤ 0
      · rw [if_pos (z0.mpr c0), qv_eq, if_neg (fun e => by omega)]
        exact ⟨_, rfl, Fr_sI (Fr_sJ Fr_refl (by decide) _ _) (by decide) _ _, Or.inr ⟨rfl, rd_eq _ _ _ _⟩⟩
      · rw [if_neg (fun e => c0 (z0.mp e)), qv_eq, if_pos ⟨by omega, hG, hn⟩, if_pos c4]
        refine ⟨_, rfl, Fr_sI (Fr_sJ Fr_refl (by decide) _ _) (by decide) _ _, Or.inl ⟨_, rfl, rd_eq _ _ _ _, ?_, ?_⟩⟩
        · rw [rd_ne _ _ (Or.inl (by decide)), rd_J, e4, ek]
        · rw [rj_I]; exact rj_eq _ _ _ _
    · rw [if_neg (fun e => c4 (z4.mp e)), qv_eq, if_neg c4]
      refine ⟨_, rfl, Fr_sI (Fr_sJ Fr_refl (by decide) _ _) (by decide) _ _, Or.inr ⟨?_, rd_eq _ _ _ _⟩⟩
      split <;> rfl
  | succ d ih =>
    intro k fu T gs n v h e4 e7 h1 hX h2 hg hG hn hv
    obtain ⟨fu, rfl⟩ : ∃ q, fu = q + 1 := ⟨fu - 1, by omega⟩
    have m2 := h.2.2.1
    have a := v_bat (F := F) h (show k < 2 ^ 31 by omega)
    have gv : nv b (k - gs) gs 0 < 256 ∧ k ≤ gs + 3 ∧ alD b (k - gs) gs = true := by
      have hG' := hG
      unfold gg at hG'
      simp only [Bool.and_eq_true, decide_eq_true_eq] at hG'
      exact ⟨hG'.2.2, hG'.1, hG'.2.1⟩
    have v3 : v < 2 ^ 50 := Nat.lt_of_lt_of_le hv (Nat.le_trans (Nat.pow_le_pow_right (by decide) (by omega : n ≤ 3)) (by decide))
    have h' := MD_sI h (f := 904) (by decide) 352 (nI (k + 1))
    have f' : Frm [904, 914] [917] [] [] [] [] T (sI T 904 352 (nI (k + 1))) := Fr_sI Fr_refl (by decide) _ _
    have q4 : gI (sI T 904 352 (nI (k + 1))) 904 352 = nI (k + 1) := rd_eq _ _ _ _
    have q7 : gJ (sI T 904 352 (nI (k + 1))) 917 352 = lN v := by rw [rj_I]; exact e7
    have hX' : ∀ i, k + 1 ≤ i → i < ea → cX (b i) = true := fun i i1 i2 => hX i (by omega) i2
    rw [v_x h (by omega) (hX k (Nat.le_refl _) (by omega)) _ _ _ 1 fu e4]
    unfold f_X12_readAddress_55
    rw [z_i352 h.1, qk_true, qv_eq, e4, a, qc_some', z_i352 h.1, qk_true, qv_eq, e4, qv_eq, nI_1, if_neg one_ne, if_neg one_ne]
    generalize sI T 904 352 (nI (k + 1)) = T1 at h' f' q4 q7
    have z46 : mb b m k = 46 ↔ k < m ∧ b k = 46 := mb_eq h k (c := 46) (by omega)
    have am : mb b m k = nI (b k) := by unfold mb; rw [if_pos (by omega)]
    have z0 : nI (k - gs) ≤ 0 ↔ k - gs ≤ 0 := nI_leI (b := 0) (by omega) (by omega)
    have bk := MD_b h k
    rw [adr]
    by_cases c : b k = 46
    · rw [if_pos (z46.mpr ⟨by omega, c⟩), if_pos c]
      unfold f_X12_readAddress_96 f_X12_readAddress_189
      rw [z_i352 h'.1, qk_true, qv_eq, qv_eq, qv_eq, q7, nI_l (by omega), l_or8 v3 gv.1, nI_1, if_pos rfl]
      have h2' := MD_sJ h' 917 352 (lN (v * 256 + nv b (k - gs) gs 0))
      have f2 := Fr_sJ f' (f := 917) (by decide) 352 (lN (v * 256 + nv b (k - gs) gs 0))
      have p4 : gI (sJ T1 917 352 (lN (v * 256 + nv b (k - gs) gs 0))) 904 352 = nI (k + 1) := by rw [rd_J]; exact q4
      have p7 : gJ (sJ T1 917 352 (lN (v * 256 + nv b (k - gs) gs 0))) 917 352 = lN (v * 256 + nv b (k - gs) gs 0) := rj_eq _ _ _ _
      by_cases c0 : k - gs ≤ 0
      · rw [if_pos (z0.mpr c0), if_neg (fun e => by omega)]
        obtain ⟨T', r, f, sp⟩ := v_raF (F := F) he hE d (k + 1) fu _ (nI (n + 1 + 1)) 0 0 h2' p4 (by omega) hX' (by omega)
        exact ⟨T', r, Fr_trans f2 f, Or.inr ⟨rfl, sp⟩⟩
      · rw [if_neg (fun e => c0 (z0.mp e)), qk_true, qv_eq, qv_eq, l_or8 v3 gv.1, qv_eq, if_neg one_ne, if_pos (show gs < k ∧ gg b gs k = true ∧ n < 4 from ⟨by omega, hG, hn⟩)]
        have z5 : 5 ≤ nI (n + 1 + 1) ↔ 5 ≤ n + 1 + 1 := nI_leI (a := 5) (by omega) (by omega)
        by_cases c5 : 5 ≤ n + 1 + 1
        · rw [if_pos (z5.mpr c5)]
          obtain ⟨T', r, f, sp⟩ := v_raF (F := F) he hE d (k + 1) fu _ (nI (n + 1 + 1)) 0 0 h2' p4 (by omega) hX' (by omega)
          have e4' : n + 1 = 4 := by omega
          rw [e4', adr_4]
          rw [e4'] at r
          exact ⟨T', r, Fr_trans f2 f, Or.inr ⟨rfl, sp⟩⟩
        · rw [if_neg (fun e => c5 (z5.mp e))]
          have nv0 : nI (nv b (k + 1 - (k + 1)) (k + 1) 0) = 0 := by rw [Nat.sub_self]; rfl
          have r0 : nI (k + 1 - (k + 1)) = 0 := by rw [Nat.sub_self]; rfl
          obtain ⟨T', r, f, sp⟩ := ih (k + 1) fu _ (k + 1) (n + 1) (v * 256 + nv b (k - gs) gs 0) h2' p4 p7 (by omega) hX' (by omega) (Nat.le_refl _) (gg_s b _) (by omega) (by rw [Nat.pow_succ]; omega)
          rw [nv0, r0] at r
          exact ⟨T', r, Fr_trans f2 f, sp⟩
    · rw [if_neg (fun e => c (z46.mp e).2), if_neg c, v_dig (T := T1) h', qc_some', decide_eq_true (show k < m by omega), Bool.true_and]
      have es : k + 1 - gs = (k - gs) + 1 := by omega
      have ek : gs + (k - gs) = k := by omega
      have bad : ∀ l2 l3, gg b gs (k + 1) = false → ∃ T', f_X12_readAddress_14 F fu 352 (nI (n + 1)) l2 l3 0 T1 = some ((), T') ∧ Frm [904, 914] [917] [] [] [] [] T T' ∧ ((∃ w, adr b d (k + 1) gs n v = some w ∧ gI T' 914 352 = 3 ∧ gI T' 904 352 = nI ea ∧ gJ T' 917 352 = lN w) ∨ (adr b d (k + 1) gs n v = none ∧ gI T' 914 352 = 5)) := by
        intro l2 l3 hb
        obtain ⟨T', r, f, sp⟩ := v_raF (F := F) he hE d (k + 1) fu T1 (nI (n + 1)) l2 l3 h' q4 (by omega) hX' (by omega)
        exact ⟨T', r, Fr_trans f' f, Or.inr ⟨adr_bad b d (k + 1) gs n v (by omega) hb, sp⟩⟩
      unfold f_X12_readAddress_148 f_X12_readAddress_169 f_X12_readAddress_189
      rw [if_pos rfl, if_pos rfl, if_pos rfl, nI_1]
      cases hD : cD (b k)
      · rw [if_pos (show bI false = 0 from rfl)]
        refine bad _ _ ?_
        unfold gg
        rw [es, alD_snoc, ek, hD, Bool.and_false, Bool.false_and, Bool.and_false]
      · rw [if_neg (show ¬ bI true = 0 by decide)]
        have z4 : 4 ≤ nI (k - gs + 1) ↔ 4 ≤ k - gs + 1 := nI_leI (a := 4) (by omega) (by omega)
        by_cases c4 : 4 ≤ k - gs + 1
        · rw [if_pos (z4.mpr c4)]
          refine bad _ _ ?_
          unfold gg
          rw [decide_eq_false (show ¬ k + 1 ≤ gs + 3 by omega), Bool.false_and]
        · have cd := cD_r hD
          have ev : (10 : Int32) * nI (nv b (k - gs) gs 0) + mb b m k - 48 = nI (nv b (k + 1 - gs) gs 0) := by
            rw [am, es, nv_snoc, ek, show (10 : Int32) = nI 10 from rfl, pk_mul, nI_add, show (48 : Int32) = nI 48 from rfl, pk_sub (by omega), Nat.mul_comm 10]
          have vs : nv b (k + 1 - gs) gs 0 < 10000 := by rw [es, nv_snoc, ek]; omega
          have z256 : 256 ≤ nI (nv b (k + 1 - gs) gs 0) ↔ 256 ≤ nv b (k + 1 - gs) gs 0 := nI_leI (a := 256) (by omega) (by omega)
          have z5 : ¬ (5 : Int32) ≤ nI (n + 1) := nI_ge (b := 5) (by omega) (by omega)
          rw [if_neg (fun e => c4 (z4.mp e)), if_neg one_ne, ev, if_neg one_ne]
          by_cases c2 : 256 ≤ nv b (k + 1 - gs) gs 0
          · rw [if_pos (z256.mpr c2)]
            refine bad _ _ ?_
            unfold gg
            rw [decide_eq_false (show ¬ nv b (k + 1 - gs) gs 0 < 256 by omega), Bool.and_false, Bool.and_false]
          · rw [if_neg (fun e => c2 (z256.mp e)), if_neg one_ne, if_neg z5]
            have hG2 : gg b gs (k + 1) = true := by
              unfold gg
              rw [decide_eq_true (show k + 1 ≤ gs + 3 by omega), decide_eq_true (show nv b (k + 1 - gs) gs 0 < 256 by omega), es, alD_snoc, ek, gv.2.2, hD]
              rfl
            obtain ⟨T', r, f, sp⟩ := ih (k + 1) fu T1 gs n v h' q4 q7 (by omega) hX' (by omega) (by omega) hG2 hn hv
            rw [es] at r
            rw [es]
            exact ⟨T', r, Fr_trans f' f, sp⟩
end MTA
