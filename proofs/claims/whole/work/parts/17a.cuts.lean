/-! the class prepares: cuts -/
def CU (T : gk_S) (c m : Nat) (v : Nat → Nat) : Prop := 1 ≤ m ∧ m ≤ 65 ∧ xI T 275 c = nI m ∧ v 0 = 0 ∧ ∀ k, k < m → xJ T (260 + c) k = lN (v k) ∧ v k ≤ tp c ∧ ∀ j, j < k → v j < v k
/-- only a coordinate's cuts change -/
def FQ (c : Nat) (S T : gk_S) : Prop := Frm [] [] [] [275] [260 + c] [] S T ∧ ∀ j, j ≠ c → xI T 275 j = xI S 275 j
section CUT
variable {S T : gk_S} {F : Nat}
theorem CU_f {c c' m : Nat} {v : Nat → Nat} (h : CU S c' m v) (hc : c' ≠ c) (f : FQ c S T) : CU T c' m v := by
  obtain ⟨h1, h2, h3, h4, h5⟩ := h
  refine ⟨h1, h2, (f.2 c' hc).trans h3, h4, fun k hk => ?_⟩
  rw [f.1.2.2.2.2.2.2.2.1 (260 + c') (by simp; omega)]
  exact h5 k hk
theorem tops7 : ∀ f, f < 7 → gk_tops (nI f).toNatClampNeg = lN (tp f) := by decide +kernel
theorem k_c101 {c m pl w : Nat} (hc : c < 7) (hpl : pl ≤ m) (hm : m < 65) {v : Nat → Nat} : ∀ d k fu (T : gk_S), Sh T → pl + d = k → k ≤ m → d < fu → xI T 275 c = nI m → (∀ j, j < pl → xJ T (260 + c) j = lN (v j)) → (∀ j, pl ≤ j → j < k → xJ T (260 + c) j = lN (v j)) → (∀ j, k < j → j ≤ m → xJ T (260 + c) j = lN (v (j - 1))) → ∃ T', f_X7_addCut_101 F fu 257 (nI c) (lN w) (nI pl) (nI k) T = some ((), T') ∧ FQ c T T' ∧ xI T' 275 c = nI (m + 1) ∧ ∀ j, j ≤ m → xJ T' (260 + c) j = lN (if j < pl then v j else if j = pl then w else v (j - 1)) := by
  intro d
  induction d with
  | zero =>
    intro k fu T hs h1 h2 h3 h4 h5 h6 h7
    obtain ⟨fu, rfl⟩ : ∃ z, fu = z + 1 := ⟨fu - 1, by omega⟩
    obtain ⟨zc1, zc2, zc3, zc4, zc5, zc6⟩ := z_cut hs hc
    have ap1 : aP T 259 (nI c) = some (260 + c) := by unfold aP; rw [nI_clamp (by omega)]; exact zc1
    have hs1 := Sh_wJ hs (260 + c) (nI pl) (lN w)
    have am : aI (wJ T (260 + c) (nI pl) (lN w)) 275 (nI c) = nI m := by unfold aI; rw [nI_clamp (by omega)]; exact h4
    rw [f_X7_addCut_101, if_pos (nI_le (by omega) (by omega)), z_i257 hs, qk_true, z_p501_257 hs, qP_some', z_i259 hs, qk_true, z_l259 hs, inb_n hc (by omega), qk_true, ap1, qP_some', zc3, qk_true, zc4, inb_n (show pl < 65 by omega) (by omega), qk_true, qv_eq, z_p503_257 hs1, qP_some', z_i275 hs1, qk_true, z_l275 hs1, inb_n hc (by omega), qk_true, qv_eq, am, qk_true, nI_1, qv_eq]
    refine ⟨_, rfl, ⟨Fr_rI (Fr_wJ Fr_refl (by simp) _ _) (by decide) _, fun j hj => ?_⟩, ?_, fun j hj => ?_⟩
    · exact (ri_eq (wJ T (260 + c) (nI pl) (lN w)) 275 (by omega) _ j).trans (if_neg hj)
    · exact (ri_eq (wJ T (260 + c) (nI pl) (lN w)) 275 (by omega) _ c).trans (if_pos rfl)
    · show xJ (wJ T (260 + c) (nI pl) (lN w)) (260 + c) j = _
      rw [rw_eq _ _ (by omega)]
      by_cases e1 : j < pl
      · rw [if_neg (by omega), if_pos e1]; exact h5 j e1
      · by_cases e2 : j = pl
        · rw [if_pos e2, if_neg e1, if_pos e2]
        · rw [if_neg e2, if_neg e1, if_neg e2]; exact h7 j (by omega) hj
  | succ d ih =>
    intro k fu T hs h1 h2 h3 h4 h5 h6 h7
    obtain ⟨fu, rfl⟩ : ∃ z, fu = z + 1 := ⟨fu - 1, by omega⟩
    obtain ⟨zc1, zc2, zc3, zc4, zc5, zc6⟩ := z_cut hs hc
    have ap1 : aP T 259 (nI c) = some (260 + c) := by unfold aP; rw [nI_clamp (by omega)]; exact zc1
    have e1 : nI k - 1 = nI (k - 1) := by rw [show (1 : Int32) = nI 1 from rfl, pk_sub (by omega)]
    have e2 : nI k + (-1) = nI (k - 1) := by rw [← e1]; exact (Int32.sub_eq_add_neg (nI k) 1).symm
    have ak : aJ T (260 + c) (nI (k - 1)) = lN (v (k - 1)) := by unfold aJ; rw [nI_clamp (by omega)]; exact h6 (k - 1) (by omega) (by omega)
    rw [f_X7_addCut_101, if_neg (nI_ge (by omega) (by omega)), z_i257 hs, qk_true, z_p501_257 hs, qP_some', z_i259 hs, qk_true, z_l259 hs, inb_n hc (by omega), qk_true, ap1, qP_some', qP_some', z_i259 hs, qk_true, z_l259 hs, inb_n hc (by omega), qk_true, ap1, qP_some', zc3, qk_true, zc4, e1, inb_n (show k - 1 < 65 by omega) (by omega), qk_true, qv_eq, ak, qk_true, inb_n (show k < 65 by omega) (by omega), qk_true, qv_eq, e2]
    have rr : ∀ j, xJ (wJ T (260 + c) (nI k) (lN (v (k - 1)))) (260 + c) j = if j = k then lN (v (k - 1)) else xJ T (260 + c) j := fun j => rw_eq _ _ (by omega) _ j
    obtain ⟨T', r1, r2, r3, r4⟩ := ih (k - 1) fu (wJ T (260 + c) (nI k) (lN (v (k - 1)))) (Sh_wJ hs _ _ _) (by omega) (by omega) (by omega) h4 (fun j hj => by rw [rr, if_neg (by omega)]; exact h5 j hj) (fun j j1 j2 => by rw [rr, if_neg (by omega)]; exact h6 j j1 (by omega)) (fun j j1 j2 => by
      rw [rr]
      by_cases e : j = k
      · rw [if_pos e, e]
      · rw [if_neg e]; exact h7 j (by omega) j2)
    exact ⟨T', r1, ⟨Fr_trans (Fr_wJ Fr_refl (by simp) _ _) r2.1, fun j hj => r2.2 j hj⟩, r3, r4⟩
/-- the place of a value -/
theorem k_c40 {c m w : Nat} (hc : c < 7) (hw : w < 2 ^ 62) {v : Nat → Nat} (hs : Sh T) (h : CU T c m v) : ∀ d fu, d ≤ m → d < fu → (∀ j, d ≤ j → j < m → w ≤ v j) → ∃ pl, f_X7_addCut_40 F fu 257 (nI c) (lN w) (nI d) T = f_X7_addCut_67 F 257 (nI c) (lN w) (nI pl) T ∧ pl ≤ m ∧ (∀ j, j < pl → v j < w) ∧ ∀ j, pl ≤ j → j < m → w ≤ v j := by
  obtain ⟨h1, h2, h3, h4, h5⟩ := h
  have tl := tp_lt c
  obtain ⟨zc1, zc2, zc3, zc4, zc5, zc6⟩ := z_cut hs hc
  have ap1 : aP T 259 (nI c) = some (260 + c) := by unfold aP; rw [nI_clamp (by omega)]; exact zc1
  intro d
  induction d with
  | zero =>
    intro fu g1 g2 g3
    obtain ⟨fu, rfl⟩ : ∃ z, fu = z + 1 := ⟨fu - 1, by omega⟩
    rw [f_X7_addCut_40, if_pos (by decide)]
    exact ⟨0, rfl, Nat.zero_le _, fun j hj => by omega, g3⟩
  | succ d ih =>
    intro fu g1 g2 g3
    obtain ⟨fu, rfl⟩ : ∃ z, fu = z + 1 := ⟨fu - 1, by omega⟩
    have e1 : nI (d + 1) - 1 = nI d := by rw [show (1 : Int32) = nI 1 from rfl, pk_sub (by omega)]; rfl
    have e2 : nI (d + 1) + (-1) = nI d := by rw [← e1]; exact (Int32.sub_eq_add_neg (nI (d + 1)) 1).symm
    obtain ⟨q1, q2, q3⟩ := h5 d (by omega)
    have ak : aJ T (260 + c) (nI d) = lN (v d) := by unfold aJ; rw [nI_clamp (by omega)]; exact q1
    have z : lN (v d) < lN w ↔ v d < w := l_lt (by omega) (by omega)
    rw [f_X7_addCut_40, if_neg (show ¬ nI (d + 1) ≤ 0 from nI_ge (a := 0) (b := d + 1) (by omega) (by omega)), z_i257 hs, qk_true, z_p501_257 hs, qP_some', z_i259 hs, qk_true, z_l259 hs, inb_n hc (by omega), qk_true, ap1, qP_some', zc3, qk_true, zc4, e1, inb_n (show d < 65 by omega) (by omega), qk_true, qv_eq, ak, e2]
    by_cases cc : v d < w
    · rw [if_pos (z.mpr cc)]
      refine ⟨d + 1, rfl, g1, fun j hj => ?_, g3⟩
      by_cases e : j = d
      · rw [e]; exact cc
      · have := q3 j (by omega); omega
    · rw [if_neg (fun q => cc (z.mp q))]
      exact ih fu (by omega) (by omega) (fun j j1 j2 => by
        by_cases e : j = d
        · rw [e]; omega
        · exact g3 j (by omega) j2)
theorem k_addCut (hF : 16400 ≤ F) {c m w : Nat} (hc : c < 7) (hw : w < 2 ^ 62) {v : Nat → Nat} (hs : Sh T) (h : CU T c m v) (hm : m < 65) : ∃ T' m' v', f_X7_addCut F T 257 (nI c) (lN w) = some ((), T') ∧ FQ c T T' ∧ CU T' c m' v' ∧ m ≤ m' ∧ m' ≤ m + 1 ∧ (∀ k, k < m → ∃ j, j < m' ∧ v' j = v k) ∧ (w ≤ tp c → ∃ j, j < m' ∧ v' j = w) := by
  have h' := h
  obtain ⟨h1, h2, h3, h4, h5⟩ := h'
  have tl := tp_lt c
  have am : aI T 275 (nI c) = nI m := by unfold aI; rw [nI_clamp (by omega)]; exact h3
  have zt : lN (tp c) < lN w ↔ tp c < w := l_lt (by omega) (by omega)
  obtain ⟨zc1, zc2, zc3, zc4, zc5, zc6⟩ := z_cut hs hc
  have ap1 : aP T 259 (nI c) = some (260 + c) := by unfold aP; rw [nI_clamp (by omega)]; exact zc1
  unfold f_X7_addCut
  rw [if_neg (nI_pos (by omega)), if_neg (show ¬ (7 : Int32) ≤ nI c from nI_ge (b := 7) hc (by omega)), inb_n hc (by omega), qk_true, tops7 c hc]
  by_cases ct : tp c < w
  · rw [if_pos (zt.mpr ct)]
    exact ⟨T, m, v, rfl, ⟨Fr_refl, fun _ _ => rfl⟩, h, Nat.le_refl _, by omega, fun k hk => ⟨k, hk, rfl⟩, fun e => by omega⟩
  obtain ⟨pl, p1, p2, p3, p4⟩ := k_c40 (F := F) hc hw hs h m F (Nat.le_refl _) (by omega) (fun j j1 j2 => by omega)
  rw [if_neg (fun q => ct (zt.mp q)), z_i257 hs, qk_true, z_p503_257 hs, qP_some', z_i275 hs, qk_true, z_l275 hs, inb_n hc (by omega), qk_true, qv_eq, am, if_pos (show nI m < 65 from nI_lt (b := 65) hm (by omega)), qP_some', z_i275 hs, qk_true, z_l275 hs, inb_n hc (by omega), qk_true, qv_eq, am, p1]
  -- a new one
  have ins : (∀ j, pl ≤ j → j < m → w < v j) → ∃ T' m' v', f_X7_addCut_101 F F 257 (nI c) (lN w) (nI pl) (nI m) T = some ((), T') ∧ FQ c T T' ∧ CU T' c m' v' ∧ m ≤ m' ∧ m' ≤ m + 1 ∧ (∀ k, k < m → ∃ j, j < m' ∧ v' j = v k) ∧ (w ≤ tp c → ∃ j, j < m' ∧ v' j = w) := by
    intro gt
    obtain ⟨T', r1, r2, r3, r4⟩ := k_c101 (F := F) (w := w) (v := v) hc p2 hm (m - pl) m F T hs (by omega) (Nat.le_refl _) (by omega) h3 (fun j hj => (h5 j (by omega)).1) (fun j _ hj => (h5 j hj).1) (fun j j1 j2 => by omega)
    have pl0 : pl ≠ 0 ∨ w = 0 := by
      rcases Nat.eq_zero_or_pos pl with e | e
      · right
        have := p4 0 (by omega) (by omega)
        rw [h4] at this
        omega
      · left; omega
    have p00 : pl ≠ 0 := by
      intro e
      have := gt 0 (by omega) (by omega)
      rw [h4] at this
      omega
    refine ⟨T', m + 1, fun j => if j < pl then v j else if j = pl then w else v (j - 1), r1, r2, ⟨by omega, by omega, r3, ?_, fun k hk => ⟨r4 k (by omega), ?_, fun j hj => ?_⟩⟩, by omega, Nat.le_refl _, fun k hk => ?_, fun _ => ⟨pl, by omega, ?_⟩⟩
    · show (if 0 < pl then v 0 else if 0 = pl then w else v (0 - 1)) = 0
      rw [if_pos (by omega)]; exact h4
    · show (if k < pl then v k else if k = pl then w else v (k - 1)) ≤ tp c
      by_cases e1 : k < pl
      · rw [if_pos e1]; exact (h5 k (by omega)).2.1
      · rw [if_neg e1]
        by_cases e2 : k = pl
        · rw [if_pos e2]; omega
        · rw [if_neg e2]; exact (h5 (k - 1) (by omega)).2.1
    · show (if j < pl then v j else if j = pl then w else v (j - 1)) < (if k < pl then v k else if k = pl then w else v (k - 1))
      by_cases e1 : k < pl
      · rw [if_pos e1, if_pos (by omega)]; exact (h5 k (by omega)).2.2 j hj
      · rw [if_neg e1]
        by_cases e2 : k = pl
        · rw [if_pos e2, if_pos (by omega)]; exact p3 j (by omega)
        · rw [if_neg e2]
          by_cases e3 : j < pl
          · rw [if_pos e3]
            have a1 := p3 j e3
            have a2 := gt (k - 1) (by omega) (by omega)
            omega
          · rw [if_neg e3]
            by_cases e4 : j = pl
            · rw [if_pos e4]; exact gt (k - 1) (by omega) (by omega)
            · rw [if_neg e4]; exact (h5 (k - 1) (by omega)).2.2 (j - 1) (by omega)
    · by_cases e1 : k < pl
      · exact ⟨k, by omega, if_pos e1⟩
      · refine ⟨k + 1, by omega, ?_⟩
        show (if k + 1 < pl then v (k + 1) else if k + 1 = pl then w else v (k + 1 - 1)) = v k
        rw [if_neg (by omega), if_neg (by omega)]; rfl
    · show (if pl < pl then v pl else if pl = pl then w else v (pl - 1)) = w
      rw [if_neg (Nat.lt_irrefl _), if_pos rfl]
  unfold f_X7_addCut_67
  rw [z_i257 hs, qk_true, z_p503_257 hs, qP_some', z_i275 hs, qk_true, z_l275 hs, inb_n hc (by omega), qk_true, qv_eq, am]
  by_cases cp : m ≤ pl
  · rw [if_pos (nI_le cp (by omega)), qP_some', z_i275 hs, qk_true, z_l275 hs, inb_n hc (by omega), qk_true, qv_eq, am]
    exact ins (fun j j1 j2 => by omega)
  · obtain ⟨q1, q2, q3⟩ := h5 pl (by omega)
    have ak : aJ T (260 + c) (nI pl) = lN (v pl) := by unfold aJ; rw [nI_clamp (by omega)]; exact q1
    have ze : lN (v pl) = lN w ↔ v pl = w := l_eq (by omega) (by omega)
    rw [if_neg (nI_ge (by omega) (by omega)), z_p501_257 hs, qP_some', z_i259 hs, qk_true, z_l259 hs, inb_n hc (by omega), qk_true, ap1, qP_some', zc3, qk_true, zc4, inb_n (show pl < 65 by omega) (by omega), qk_true, qv_eq, ak]
    by_cases ce : v pl = w
    · rw [if_pos (ze.mpr ce)]
      exact ⟨T, m, v, rfl, ⟨Fr_refl, fun _ _ => rfl⟩, h, Nat.le_refl _, by omega, fun k hk => ⟨k, hk, rfl⟩, fun _ => ⟨pl, by omega, ce⟩⟩
    · rw [if_neg (fun q => ce (ze.mp q)), qP_some', z_i275 hs, qk_true, z_l275 hs, inb_n hc (by omega), qk_true, qv_eq, am]
      refine ins (fun j j1 j2 => ?_)
      have := p4 pl (Nat.le_refl _) (by omega)
      by_cases e : j = pl
      · rw [e]; omega
      · have := (h5 j j2).2.2 pl (by omega); omega
end CUT
