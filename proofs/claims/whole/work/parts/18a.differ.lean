/-! the class tells apart; the model looks -/
def SeU (S : gk_S) (u : Nat) : Prop := gJ S 508 257 = lN u ∧ ∀ i, i < 1024 → ∃ v, v < 1099511627776 * (u + 1) ∧ xJ S 278 i = lN v
def FT (S T : gk_S) : Prop := Frm [506] [508] [] [268, 269, 270, 271, 272, 273, 274, 275, 276, 277] [258, 260, 261, 262, 263, 264, 265, 266, 278] [] S T
section DIF
variable {S T : gk_S} {F n1 n2 tw u r r1 r2 : Nat} {ρ1 ρ2 : Nat → AR} {α1 α2 : Nat → Nat} {mc : Nat → Nat} {cv : Nat → Nat → Nat} {L L1 L2 : AL}
theorem FT_P (f : FP S T) : FT S T := Fr_mono f (by simp) (by simp) (by simp) (by simp) (by simp) (by simp)
theorem FT_Sh (f : FT S T) (h : Sh S) : Sh T := Fr_Sh f h (by simp) (by simp)
theorem SeU_P (h : SeU S u) (f : FP S T) : SeU T u := by
  unfold SeU
  rw [f.2.2.2.2.1 508 257 (by simp), f.2.2.2.2.2.2.2.1 278 (by decide)]
  exact h
theorem k_differ (hF : 16400 ≤ F) (hs : Sh S) (pr : PR S ρ1 ρ2 α1 α2 n1 n2 mc cv tw) (se : SeU S u) (hu : u < 90000) {a p b q : Nat} (ha : a < 65536) (hb : b < 65536) (hia : ∀ i, Nat.testBit a i = true → i < n1) (hib : ∀ i, Nat.testBit b i = true → i < n2) (hp : p < 3) (hq : q < 3) : ∃ z T, f_X7_differ F S 257 (nI (a + 65536 * p)) (nI (b + 65536 * q)) = some (bI z, T) ∧ Frm [] [508] [] [] [258, 278] [] S T ∧ SeU T (u + 1) ∧ PR T ρ1 ρ2 α1 α2 n1 n2 mc cv tw ∧ (z = true → ∃ y, Lsf 0 (CD ρ1 ρ2 α1 α2 0 a p b q) y ∧ ∀ k, k < 7 → xJ T 258 k = lN (y k)) ∧ (z = false → NDf 0 (CD ρ1 ρ2 α1 α2 0 a p b q)) := by
  obtain ⟨e1, e2⟩ := se
  have h1 := Sh_sJ hs 508 257 (lN (u + 1))
  have g1 : gJ (sJ S 508 257 (lN (u + 1))) 508 257 = lN (u + 1) := rj_eq _ _ _ _
  have pr1 : PR (sJ S 508 257 (lN (u + 1))) ρ1 ρ2 α1 α2 n1 n2 mc cv tw := pr
  have f1 : Frm [] [508] [] [] [258, 278] [] S (sJ S 508 257 (lN (u + 1))) := Fr_sJ Fr_refl (by decide) _ _
  have cm : CM (sJ S 508 257 (lN (u + 1))) ρ1 ρ2 α1 α2 (u + 1) := by
    refine ⟨g1, fun i hi => ?_, fun i c h t i1 i2 i3 i4 i5 => ?_⟩
    · obtain ⟨v, v1, v2⟩ := e2 i hi
      exact ⟨v, by omega, v2⟩
    · exfalso
      obtain ⟨v, v1, v2⟩ := e2 i i1
      have i5' : xJ S 278 i = lN (kyC (u + 1) c h t) := i5
      rw [v2] at i5'
      unfold kyC at i5'
      have := (l_eq (by omega) (by omega)).mp i5'
      omega
  have e3 : lN u + 1 = lN (u + 1) := by rw [show (1 : Int64) = lN 1 from rfl, lN_add]
  generalize hS1 : sJ S 508 257 (lN (u + 1)) = S1 at h1 g1 pr1 f1 cm
  obtain ⟨z, T, r1, r2, r3, r4, r5, r6⟩ := k_desc (F := F) (u := u + 1) hF (by omega) 7 0 (by omega) S1 a p b q h1 pr1 cm ha hb hia hib hp hq
  have r1' : f_X7_descend_r F 9 S1 257 0 (nI (a + 65536 * p)) (nI (b + 65536 * q)) = some (bI z, T) := r1
  refine ⟨z, T, ?_, Fr_trans f1 (Fr_mono r2 (by simp) (by simp) (by simp) (by simp) (by simp) (by simp)), ⟨r3.1, r3.2.1⟩, PR_F pr1 r2, fun e => ?_, r6⟩
  · unfold f_X7_differ
    rw [z_i257 hs, qk_true, qv_eq, e1, e3, qv_eq, hS1, r1', qc_some', show zb (bI z) = true by cases z <;> rfl, qk_true]
  · obtain ⟨y, y1, y2⟩ := r5 e
    exact ⟨y, y1, fun k hk => y2 k (Nat.zero_le _) hk⟩
theorem k_below {n : Nat} (hn : n ≤ 16) : f_X7_bitsBelow F T (nI n) = some (nI (lowm n), T) := by
  have := Nat.two_pow_pos n
  unfold f_X7_bitsBelow lowm
  rw [shl_1 n (by omega), show (1 : Int32) = nI 1 from rfl, pk_sub (by omega)]
theorem k_sideN {a p : Nat} (ha : a < 65536) (hp : p < 4) : f_X7_side F T (nI a) (nI p) = some (nI (a + 65536 * p), T) := by
  unfold f_X7_side
  rw [side_eq p hp, nI_or, sd_or ha]
theorem k_apart (hF : 16400 ≤ F) (hs : Sh S) (hr1 : Ba r1) (hr2 : Ba r2) (w1 : WL L1) (w2 : WL L2) (c1 : CL S r1 L1) (c2 : CL S r2 L2) (se : SeU S u) (hu : u < 90000) : ∃ z T, f_X7_tellsApart F S 257 r1 r2 = some (bI z, T) ∧ FT S T ∧ SeU T (u + 1) ∧ (z = true → ∃ y, Lsf 0 (Dm none L1 L2 0 (lowm L1.n) (lowm L2.n)) y ∧ ∀ k, k < 7 → xJ T 258 k = lN (y k)) ∧ (z = false → NDf 0 (Dm none L1 L2 0 (lowm L1.n) (lowm L2.n))) := by
  have b1 := w1.1
  have b2 := w2.1
  obtain ⟨T1, ms, vs, tw, p1, p2, p3⟩ := k_prep (F := F) hF hr1 hr2 w1 w2 (Nat.le_refl _) (Nat.le_refl _) hs c1 c2
  have h1 := FP_Sh p2 hs
  have d1 := CL_FP hr1 c1 b1 p2
  have d2 := CL_FP hr2 c2 b2 p2
  obtain ⟨z, T, q1, q2, q3, q4, q5, q6⟩ := k_differ (F := F) (a := lowm L1.n) (b := lowm L2.n) (p := L1.p) (q := L2.p) hF h1 p3 (SeU_P se p2) hu (lowm_lt b1) (lowm_lt b2) (fun i e => by rw [lowm_t] at e; exact of_decide_eq_true e) (fun i e => by rw [lowm_t] at e; exact of_decide_eq_true e) w1.2.1 w2.2.1
  refine ⟨z, T, ?_, Fr_trans (FT_P p2) (Fr_mono q2 (by simp) (by simp) (by simp) (by simp) (by simp) (by simp)), q3, q5, q6⟩
  unfold f_X7_tellsApart
  rw [z_r hs hr1, qk_true, qv_eq, c1.1, z_r hs hr2, qk_true, qv_eq, c2.1, z_i257 hs, qk_true, p1, qc_some', z_r h1 hr1, qk_true, qv_eq, d1.1, k_below b1, qc_some', z_r h1 hr1, qk_true, qv_eq, d1.2.1, k_sideN (lowm_lt b1) (by have := w1.2.1; omega), qc_some', z_r h1 hr2, qk_true, qv_eq, d2.1, k_below b2, qc_some', z_r h1 hr2, qk_true, qv_eq, d2.2.1, k_sideN (lowm_lt b2) (by have := w2.2.1; omega), qc_some', z_i257 h1, qk_true, q1, qc_some', show zb (bI z) = true by cases z <;> rfl, qk_true]
/-- the point is kept -/
theorem k_keep2 : ∀ d k fu (T : gk_S), k + d = 7 → d < fu → Sh T → (∀ j, j < k → xJ T 351 j = xJ T 258 j) → ∃ T', f_X11_keepPoint_2 F fu 0 (nI k) T = some ((), T') ∧ Frm [811] [] [] [] [351] [] T T' ∧ gI T' 811 0 = 1 ∧ ∀ j, j < 7 → xJ T' 351 j = xJ T 258 j := by
  intro d
  induction d with
  | zero =>
    intro k fu T h1 h2 hs hj
    obtain ⟨fu, rfl⟩ : ∃ z, fu = z + 1 := ⟨fu - 1, by omega⟩
    rw [f_X11_keepPoint_2, if_pos (show (7 : Int32) ≤ nI k from nI_le (a := 7) (by omega) (by omega)), z_i0 hs, qk_true, qv_eq]
    exact ⟨_, rfl, Fr_sI Fr_refl (by decide) _ _, rd_eq _ _ _ _, fun j hj' => hj j (by omega)⟩
  | succ d ih =>
    intro k fu T h1 h2 hs hj
    obtain ⟨fu, rfl⟩ : ∃ z, fu = z + 1 := ⟨fu - 1, by omega⟩
    have ak : aJ T 258 (nI k) = xJ T 258 k := by unfold aJ; rw [nI_clamp (by omega)]
    obtain ⟨T', r1, r2, r3, r4⟩ := ih (k + 1) fu (wJ T 351 (nI k) (xJ T 258 k)) (by omega) (by omega) (Sh_wJ hs _ _ _) (fun j hj' => by
      rw [rw_eq _ _ (by omega), rw_ne _ _ _ _ (show 258 ≠ 351 by decide)]
      by_cases e : j = k
      · rw [if_pos e, e]
      · rw [if_neg e]; exact hj j (by omega))
    rw [f_X11_keepPoint_2, if_neg (show ¬ (7 : Int32) ≤ nI k from nI_ge (b := 7) (by omega) (by omega)), z_i0 hs, qk_true, z_p809_0 hs, qP_some', z_p804_0 hs, qP_some', z_i257 hs, qk_true, z_p500_257 hs, qP_some', z_i258 hs, qk_true, z_l258 hs, inb_n (show k < 7 by omega) (by omega), qk_true, qv_eq, ak, z_i351 hs, qk_true, z_l351 hs, inb_n (show k < 7 by omega) (by omega), qk_true, qv_eq, nI_1]
    refine ⟨T', r1, Fr_trans (Fr_wJ Fr_refl (by decide) _ _) r2, r3, fun j hj' => ?_⟩
    rw [r4 j hj', rw_ne _ _ _ _ (by decide)]
/-- the model looks -/
theorem v_lk23 : ∀ d k fu (T : gk_S), k + d = 7 → d < fu → Sh T → (∀ j, j < k → xJ T 365 j = xJ T 366 j) → ∃ T', f_X12_looks_23 F fu 352 (nI k) T = some (1, T') ∧ Frm [] [] [] [] [365] [] T T' ∧ ∀ j, j < 7 → xJ T' 365 j = xJ T 366 j := by
  intro d
  induction d with
  | zero =>
    intro k fu T h1 h2 hs hj
    obtain ⟨fu, rfl⟩ : ∃ z, fu = z + 1 := ⟨fu - 1, by omega⟩
    rw [f_X12_looks_23, if_pos (show (7 : Int32) ≤ nI k from nI_le (a := 7) (by omega) (by omega))]
    exact ⟨T, rfl, Fr_refl, fun j hj' => hj j (by omega)⟩
  | succ d ih =>
    intro k fu T h1 h2 hs hj
    obtain ⟨fu, rfl⟩ : ∃ z, fu = z + 1 := ⟨fu - 1, by omega⟩
    have ak : aJ T 366 (nI k) = xJ T 366 k := by unfold aJ; rw [nI_clamp (by omega)]
    obtain ⟨T', r1, r2, r4⟩ := ih (k + 1) fu (wJ T 365 (nI k) (xJ T 366 k)) (by omega) (by omega) (Sh_wJ hs _ _ _) (fun j hj' => by
      rw [rw_eq _ _ (by omega), rw_ne _ _ _ _ (show 366 ≠ 365 by decide)]
      by_cases e : j = k
      · rw [if_pos e, e]
      · rw [if_neg e]; exact hj j (by omega))
    rw [f_X12_looks_23, if_neg (show ¬ (7 : Int32) ≤ nI k from nI_ge (b := 7) (by omega) (by omega)), z_i352 hs, qk_true, z_p923_352 hs, qP_some', z_p924_352 hs, qP_some', z_i366 hs, qk_true, z_l366 hs, inb_n (show k < 7 by omega) (by omega), qk_true, qv_eq, ak, z_i365 hs, qk_true, z_l365 hs, inb_n (show k < 7 by omega) (by omega), qk_true, qv_eq, nI_1]
    refine ⟨T', r1, Fr_trans (Fr_wJ Fr_refl (by decide) _ _) r2, fun j hj' => ?_⟩
    rw [r4 j hj', rw_ne _ _ _ _ (by decide)]
theorem v_looks (hF : 16400 ≤ F) {l1 l2 a b : Nat} {mu : Option Nat} (s : SM S l1 l2 L1 L2 mu) (ha : inM L1 a) (hb : inM L2 b) (hb0 : mu ≠ none → b = 0) : ∃ z T, f_X12_looks F S 352 (nI a) (nI b) = some (bI z, T) ∧ Frm [925] [] [] [368] [365, 366, 367] [] S T ∧ (z = true → gI T 925 352 = 1 ∧ ∃ y, Lsf 0 (Dm mu L1 L2 0 a b) y ∧ ∀ k, k < 7 → xJ T 365 k = lN (y k)) ∧ (z = false → NDf 0 (Dm mu L1 L2 0 a b) ∧ gI T 925 352 = gI S 925 352 ∧ xJ T 365 = xJ S 365) := by
  have hs := s.1
  obtain ⟨T1, r1, r2, r3, r4⟩ := v_forget (F := F) hF hs
  have s1 := SM_F s r2
  obtain ⟨z, T2, q1, q2, q3, q4, q5, q6⟩ := v_goes (F := F) (L1 := L1) (L2 := L2) hF 6 0 (by omega) T1 a b s1 (r3 _ _ _) ha hb hb0
  have q1' : f_X12_goesOn_r F 8 T1 352 0 (nI a) (nI b) = some (bI z, T2) := q1
  have f2 : FV S T2 := Fr_trans r2 q2
  have h2 := (SM_F s1 q2).1
  have f2' : Frm [925] [] [] [368] [365, 366, 367] [] S T2 := Fr_mono f2 (by simp) (by simp) (by simp) (by simp) (by simp) (by simp)
  unfold f_X12_looks
  rw [z_i352 hs, qk_true, r1, qc_some', z_i352 s1.1, qk_true, q1', qc_some']
  cases z
  · rw [if_pos (show bI false = 0 from rfl)]
    exact ⟨false, T2, rfl, f2', fun e => absurd e (by decide), fun _ => ⟨q6 rfl, f2.2.2.2.1 _ _ (by simp), f2.2.2.2.2.2.2.2.1 365 (by decide)⟩⟩
  · obtain ⟨y, y1, y2⟩ := q5 rfl
    have h3 := Sh_sI h2 925 352 1
    obtain ⟨T3, t1, t2, t3⟩ := v_lk23 (F := F) 7 0 F (sI T2 925 352 1) (by omega) (by omega) h3 (fun j hj => by omega)
    have t1' : f_X12_looks_23 F F 352 0 (sI T2 925 352 1) = some (1, T3) := t1
    rw [if_neg (show ¬ bI true = 0 by decide), z_i352 h2, qk_true, qv_eq, t1']
    refine ⟨true, T3, rfl, Fr_trans (Fr_sI f2' (by decide) _ _) (Fr_mono t2 (by simp) (by simp) (by simp) (by simp) (by simp) (by simp)), fun _ => ⟨?_, y, y1, fun k hk => ?_⟩, fun e => absurd e (by decide)⟩
    · rw [t2.2.2.2.1 925 352 (by simp)]; exact rd_eq _ _ _ _
    · rw [t3 k hk]
      exact y2 k (Nat.zero_le _) hk
end DIF
