/-! the class prepares -/
def FP (S T : gk_S) : Prop := Frm [506] [] [] [268, 269, 270, 271, 272, 273, 274, 275, 276, 277] [260, 261, 262, 263, 264, 265, 266] [] S T
def rr2 (L1 L2 : AL) (i : Nat) : AR := if i < 16 then L1.r i else L2.r (i - 16)
section PRP
variable {S T : gk_S} {F r r1 r2 : Nat} {L L1 L2 : AL}
theorem FP_Sh (f : FP S T) (h : Sh S) : Sh T := Fr_Sh f h (by simp) (by simp)
theorem FP_K (f : FK S T) : FP S T := Fr_mono f (by simp) (by simp) (by simp) (by simp) (by simp) (by simp)
theorem FP_M (f : FM S T) : FP S T := Fr_mono f (by simp) (by simp) (by simp) (by simp) (by simp) (by simp)
theorem CL_FP (hr : Ba r) (h : CL S r L) (hn : L.n ≤ 16) (f : FP S T) : CL T r L := CL_c h (f.2.2.2.1 _ _ (by simp)) (f.2.2.2.1 _ _ (by simp)) (fun i hi => by
  have u := ru_lt hr (show i < 16 by omega)
  exact ⟨f.2.2.2.1 _ _ (by simp), f.2.2.2.1 _ _ (by simp), f.2.2.2.2.2.2.2.1 _ (by simp; omega), f.2.2.2.2.2.2.2.1 _ (by simp; omega)⟩)
theorem mem60 {c : Nat} (hc : c < 7) : 260 + c ∈ [260, 261, 262, 263, 264, 265, 266] := by
  have : c = 0 ∨ c = 1 ∨ c = 2 ∨ c = 3 ∨ c = 4 ∨ c = 5 ∨ c = 6 := by omega
  rcases this with rfl | rfl | rfl | rfl | rfl | rfl | rfl <;> decide
theorem k_p3 (n1 n2 : Int32) : ∀ d c fu (T : gk_S), c + d = 7 → d < fu → Sh T → (∀ c', c' < c → xJ T (260 + c') 0 = lN 0 ∧ xI T 275 c' = nI 1 ∧ xI T 276 c' = nI 0) → ∃ T', f_X7_prepare_3 F fu 257 r1 n1 r2 n2 (nI c) T = f_X7_prepare_53 F F 257 r1 n1 r2 n2 0 T' ∧ FP T T' ∧ (∀ c', c' < 7 → xJ T' (260 + c') 0 = lN 0 ∧ xI T' 275 c' = nI 1 ∧ xI T' 276 c' = nI 0) ∧ xI T' 276 7 = nI 4294967295 := by
  intro d
  induction d with
  | zero =>
    intro c fu T h1 h2 hs hj
    obtain ⟨fu, rfl⟩ : ∃ z, fu = z + 1 := ⟨fu - 1, by omega⟩
    have x6 : ∀ i, xI (wI T 276 7 (-1)) 276 i = if i = 7 then -1 else xI T 276 i := fun i => ri_eq T 276 (i := 7) (by omega) (-1) i
    rw [f_X7_prepare_3, if_pos (show (7 : Int32) ≤ nI c from nI_le (a := 7) (by omega) (by omega)), z_i257 hs, qk_true, z_p504_257 hs, qP_some', z_i276 hs, qk_true, z_l276 hs, show inb 7 8 = true from rfl, qk_true, qv_eq]
    refine ⟨_, rfl, Fr_rI Fr_refl (by decide) _, fun c' hc' => ?_, ?_⟩
    · obtain ⟨q1, q2, q3⟩ := hj c' (by omega)
      exact ⟨q1, by rw [ri_ne _ _ _ _ (by decide)]; exact q2, by rw [x6, if_neg (by omega)]; exact q3⟩
    · rw [x6, if_pos rfl]; rfl
  | succ d ih =>
    intro c fu T h1 h2 hs hj
    obtain ⟨fu, rfl⟩ : ∃ z, fu = z + 1 := ⟨fu - 1, by omega⟩
    have hc : c < 7 := by omega
    obtain ⟨zc1, zc2, zc3, zc4, zc5, zc6⟩ := z_cut hs hc
    have ap1 : aP T 259 (nI c) = some (260 + c) := by unfold aP; rw [nI_clamp (by omega)]; exact zc1
    have hs1 := Sh_wJ hs (260 + c) 0 0
    have hs2 := Sh_wI hs1 275 (nI c) 1
    have hs3 := Sh_wI hs2 276 (nI c) 0
    have fp : FP T (wI (wI (wJ T (260 + c) 0 0) 275 (nI c) 1) 276 (nI c) 0) := Fr_rI (Fr_rI (Fr_wJ Fr_refl (mem60 hc) _ _) (by decide) _) (by decide) _
    have xj : ∀ a, xJ (wI (wI (wJ T (260 + c) 0 0) 275 (nI c) 1) 276 (nI c) 0) a 0 = if a = 260 + c then 0 else xJ T a 0 := fun a => by
      show xJ (wJ T (260 + c) 0 0) a 0 = _
      by_cases e : a = 260 + c
      · rw [if_pos e, e]; exact (rw_eq T (260 + c) (i := 0) (by omega) 0 0).trans (if_pos rfl)
      · rw [if_neg e, rw_ne _ _ _ _ e]
    have x5 : ∀ i, xI (wI (wI (wJ T (260 + c) 0 0) 275 (nI c) 1) 276 (nI c) 0) 275 i = if i = c then 1 else xI T 275 i := fun i => by
      rw [ri_ne _ _ _ _ (by decide)]
      exact ri_eq (wJ T (260 + c) 0 0) 275 (by omega) 1 i
    have x6 : ∀ i, xI (wI (wI (wJ T (260 + c) 0 0) 275 (nI c) 1) 276 (nI c) 0) 276 i = if i = c then 0 else xI T 276 i := fun i => by
      rw [ri_eq _ _ (by omega), ri_ne _ _ _ _ (by decide)]
      rfl
    rw [f_X7_prepare_3, if_neg (show ¬ (7 : Int32) ≤ nI c from nI_ge (b := 7) hc (by omega)), z_i257 hs, qk_true, z_p501_257 hs, qP_some', z_i259 hs, qk_true, z_l259 hs, inb_n hc (by omega), qk_true, ap1, qP_some', zc3, qk_true, zc4, show inb 0 65 = true from rfl, qk_true, qv_eq, z_p503_257 hs1, qP_some', z_i275 hs1, qk_true, z_l275 hs1, inb_n hc (by omega), qk_true, qv_eq, z_p504_257 hs2, qP_some', z_i276 hs2, qk_true, z_l276 hs2, inb_n (show c < 8 by omega) (by omega), qk_true, qv_eq, nI_1]
    generalize wI (wI (wJ T (260 + c) 0 0) 275 (nI c) 1) 276 (nI c) 0 = T1 at hs3 fp xj x5 x6
    obtain ⟨T', r1, r2, r3, r4⟩ := ih (c + 1) fu T1 (by omega) (by omega) hs3 (fun c' hc' => by
      rw [xj, x5, x6]
      by_cases e : c' = c
      · rw [if_pos (by omega), if_pos e, if_pos e]; exact ⟨rfl, rfl, rfl⟩
      · rw [if_neg (by omega), if_neg e, if_neg e]; exact hj c' (by omega))
    exact ⟨T', r1, Fr_trans fp r2, r3, r4⟩
theorem k_p53 (n1 n2 : Int32) : ∀ d a fu (T : gk_S), a + d = 3 → d < fu → Sh T → (∀ a', a' < a → xI T 277 a' = nI 0) → ∃ T', f_X7_prepare_53 F fu 257 r1 n1 r2 n2 (nI a) T = f_X7_prepare_53 F 1 257 r1 n1 r2 n2 3 T' ∧ FP T T' ∧ (∀ b, b ≠ 277 → xI T' b = xI T b) ∧ xJ T' = xJ T ∧ ∀ a', a' < 3 → xI T' 277 a' = nI 0 := by
  intro d
  induction d with
  | zero =>
    intro a fu T h1 h2 hs hj
    obtain ⟨fu, rfl⟩ : ∃ z, fu = z + 1 := ⟨fu - 1, by omega⟩
    have ea : a = 3 := by omega
    subst ea
    refine ⟨T, ?_, Fr_refl, fun _ _ => rfl, rfl, hj⟩
    rw [f_X7_prepare_53, f_X7_prepare_53, if_pos (show (3 : Int32) ≤ nI 3 by decide), if_pos (show (3 : Int32) ≤ 3 by decide)]
  | succ d ih =>
    intro a fu T h1 h2 hs hj
    obtain ⟨fu, rfl⟩ : ∃ z, fu = z + 1 := ⟨fu - 1, by omega⟩
    obtain ⟨T', r1, r2, r3, r4, r5⟩ := ih (a + 1) fu (wI T 277 (nI a) 0) (by omega) (by omega) (Sh_wI hs _ _ _) (fun j hj' => by
      rw [ri_eq _ _ (by omega)]
      by_cases e : j = a
      · rw [if_pos e]; rfl
      · rw [if_neg e]; exact hj j (by omega))
    rw [f_X7_prepare_53, if_neg (show ¬ (3 : Int32) ≤ nI a from nI_ge (b := 3) (by omega) (by omega)), z_i257 hs, qk_true, z_p505_257 hs, qP_some', z_i277 hs, qk_true, z_l277 hs, inb_n (show a < 3 by omega) (by omega), qk_true, qv_eq, nI_1]
    exact ⟨T', r1, Fr_trans (Fr_rI Fr_refl (by decide) _) r2, fun b hb => (r3 b hb).trans (ri_ne _ _ _ _ hb), r4, r5⟩
theorem k_same2 (hr1 : Ba r1) (hr2 : Ba r2) {i : Nat} (hi : i < 16) {ρ σ : AR} (hs : Sh T) (c1 : CR T (ru r1 i) ρ) (c2 : CR T (ru r2 i) σ) (w1 : WR ρ) (w2 : WR σ) : ∀ d f fu, f + d = 6 → d < fu → ∃ q, f_X5_isSameAs_2 F fu (ru r1 i) (ru r2 i) (nI f) T = some (bI q, T) ∧ (q = true → (∀ j, f ≤ j → j < 6 → ρ.lo j = σ.lo j ∧ ρ.hi j = σ.hi j) ∧ ρ.s = σ.s ∧ ρ.a = σ.a) := by
  intro d
  induction d with
  | zero =>
    intro f fu h1 h2
    obtain ⟨fu, rfl⟩ : ∃ z, fu = z + 1 := ⟨fu - 1, by omega⟩
    have zs : nI ρ.s = nI σ.s ↔ ρ.s = σ.s := nI_eq (by have := w1.2.1; omega) (by have := w2.2.1; omega)
    have za : nI ρ.a = nI σ.a ↔ ρ.a = σ.a := nI_eq (by have := w1.1; omega) (by have := w2.1; omega)
    rw [f_X5_isSameAs_2, if_pos (show (6 : Int32) ≤ nI f from nI_le (a := 6) (by omega) (by omega)), z_u hs hr1 hi, qk_true, qv_eq, c1.2.1, z_u hs hr2 hi, qk_true, qv_eq, c2.2.1]
    by_cases e1 : ρ.s = σ.s
    · rw [if_pos (zs.mpr e1), qv_eq, c1.1, qv_eq, c2.1]
      by_cases e2 : ρ.a = σ.a
      · rw [if_pos (za.mpr e2)]
        exact ⟨true, rfl, fun _ => ⟨fun j j1 j2 => by omega, e1, e2⟩⟩
      · rw [if_neg (fun q => e2 (za.mp q))]
        exact ⟨false, rfl, fun q => absurd q (by decide)⟩
    · rw [if_neg (fun q => e1 (zs.mp q))]
      exact ⟨false, rfl, fun q => absurd q (by decide)⟩
  | succ d ih =>
    intro f fu h1 h2
    obtain ⟨fu, rfl⟩ : ∃ z, fu = z + 1 := ⟨fu - 1, by omega⟩
    have hf : f < 6 := by omega
    have u1 := z_ul hs hr1 hi
    have u2 := z_ul hs hr2 hi
    have b1 := WR_lt w1 hf
    have b2 := WR_lt w2 hf
    have e1 : aJ T (ru r1 i + 1) (nI f) = lN (ρ.lo f) := by unfold aJ; rw [nI_clamp (by omega)]; exact (c1.2.2 f hf).1
    have e2 : aJ T (ru r1 i + 2) (nI f) = lN (ρ.hi f) := by unfold aJ; rw [nI_clamp (by omega)]; exact (c1.2.2 f hf).2
    have e3 : aJ T (ru r2 i + 1) (nI f) = lN (σ.lo f) := by unfold aJ; rw [nI_clamp (by omega)]; exact (c2.2.2 f hf).1
    have e4 : aJ T (ru r2 i + 2) (nI f) = lN (σ.hi f) := by unfold aJ; rw [nI_clamp (by omega)]; exact (c2.2.2 f hf).2
    have z1 : lN (ρ.lo f) = lN (σ.lo f) ↔ ρ.lo f = σ.lo f := l_eq (by omega) (by omega)
    have z2 : lN (ρ.hi f) = lN (σ.hi f) ↔ ρ.hi f = σ.hi f := l_eq (by omega) (by omega)
    simp only [f_X5_isSameAs_2, qk_true, qk_false, qv_eq, qP_some', qP_none, qc_some', qc_none, qx_inl', qx_inr', qh_inl', qh_inr', show ¬ (6 : Int32) ≤ nI f from nI_ge (b := 6) hf (by omega), if_false, z_u hs hr1 hi, z_u hs hr2 hi, z_up hs hr1 hi, z_up hs hr2 hi, z_uq hs hr1 hi, z_uq hs hr2 hi, u1.1, u1.2.1, u1.2.2.1, u1.2.2.2, u2.1, u2.2.1, u2.2.2.1, u2.2.2.2, inb_n hf (by omega : 6 < 2 ^ 31), e1, e2, e3, e4, z1, z2, nI_1]
    by_cases g1 : ρ.lo f = σ.lo f
    · rw [if_pos g1]
      by_cases g2 : ρ.hi f = σ.hi f
      · rw [if_pos g2]
        obtain ⟨q, q1, q2⟩ := ih (f + 1) fu (by omega) (by omega)
        refine ⟨q, q1, fun e => ⟨fun j j1 j2 => ?_, (q2 e).2⟩⟩
        by_cases ej : j = f
        · rw [ej]; exact ⟨g1, g2⟩
        · exact (q2 e).1 j (by omega) j2
      · rw [if_neg g2]
        exact ⟨false, rfl, fun q => absurd q (by decide)⟩
    · rw [if_neg g1]
      exact ⟨false, rfl, fun q => absurd q (by decide)⟩
theorem k_p114 (hF : 16400 ≤ F) (hr1 : Ba r1) (hr2 : Ba r2) (w1 : WL L1) (w2 : WL L2) {n1 n2 : Nat} (hn1 : n1 ≤ L1.n) (hn2 : n2 ≤ L2.n) : ∀ d k fu (T : gk_S) tw, k + d = 16 → d < fu → Sh T → CL T r1 L1 → CL T r2 L2 → gI T 506 257 = nI tw → tw < 2 ^ k → (∀ i, Nat.testBit tw i = true → i < n1 ∧ i < n2 ∧ (∀ j, j < 6 → (L1.r i).lo j = (L2.r i).lo j ∧ (L1.r i).hi j = (L2.r i).hi j) ∧ (L1.r i).s = (L2.r i).s ∧ (L1.r i).a = (L2.r i).a) → ∃ T' tw', f_X7_prepare_114 F fu 257 r1 (nI n1) r2 (nI n2) (nI k) T = some ((), T') ∧ Frm [506] [] [] [] [] [] T T' ∧ gI T' 506 257 = nI tw' ∧ tw' < 65536 ∧ ∀ i, Nat.testBit tw' i = true → i < n1 ∧ i < n2 ∧ (∀ j, j < 6 → (L1.r i).lo j = (L2.r i).lo j ∧ (L1.r i).hi j = (L2.r i).hi j) ∧ (L1.r i).s = (L2.r i).s ∧ (L1.r i).a = (L2.r i).a := by
  have b1 := w1.1
  have b2 := w2.1
  intro d
  induction d with
  | zero =>
    intro k fu T tw h1 h2 hs c1 c2 e tl hb
    obtain ⟨fu, rfl⟩ : ∃ z, fu = z + 1 := ⟨fu - 1, by omega⟩
    have ek : k = 16 := by omega
    subst ek
    rw [f_X7_prepare_114, if_pos (nI_le (by omega) (by omega))]
    exact ⟨T, tw, rfl, Fr_refl, e, tl, hb⟩
  | succ d ih =>
    intro k fu T tw h1 h2 hs c1 c2 e tl hb
    obtain ⟨fu, rfl⟩ : ∃ z, fu = z + 1 := ⟨fu - 1, by omega⟩
    have hk : k < 16 := by omega
    have tl16 : tw < 65536 := Nat.lt_of_lt_of_le tl (Nat.pow_le_pow_right (show 0 < 2 by decide) (by omega : k ≤ 16))
    rw [f_X7_prepare_114]
    by_cases g1 : n1 ≤ k
    · rw [if_pos (nI_le g1 (by omega))]
      exact ⟨T, tw, rfl, Fr_refl, e, tl16, hb⟩
    rw [if_neg (nI_ge (by omega) (by omega))]
    by_cases g2 : n2 ≤ k
    · rw [if_pos (nI_le g2 (by omega))]
      exact ⟨T, tw, rfl, Fr_refl, e, tl16, hb⟩
    obtain ⟨q, q1, q2⟩ := k_same2 (F := F) hr1 hr2 hk hs (c1.2.2 k (by omega)) (c2.2.2 k (by omega)) (w1.2.2 k (by omega)) (w2.2.2 k (by omega)) 6 0 F (by omega) (by omega)
    have q1' : f_X5_isSameAs F T (ru r1 k) (ru r2 k) = some (bI q, T) := q1
    rw [if_neg (nI_ge (by omega) (by omega)), z_i257 hs, qk_true, qv_eq, e, z_r hs hr1, qk_true, k_at hs hr1 hk, qc_some', z_r hs hr2, qk_true, k_at hs hr2 hk, qc_some', z_u hs hr1 hk, qk_true, q1', qc_some', nI_1]
    have cl : ∀ (r : Nat) (L : AL) (v : Int32), CL T r L → CL (sI T 506 257 v) r L := fun r L v c => CL_c c (rd_ne _ _ (Or.inl (by decide))) (rd_ne _ _ (Or.inl (by decide))) (fun i hi => ⟨rd_ne _ _ (Or.inl (by decide)), rd_ne _ _ (Or.inl (by decide)), rfl, rfl⟩)
    have hp : tw < 2 ^ (k + 1) := by rw [Nat.pow_succ]; omega
    cases q
    · rw [if_pos (show bI false = 0 from rfl), z_i257 hs, qk_true, qv_eq, show nI tw ||| 0 = nI tw by rw [show (0 : Int32) = nI 0 from rfl, nI_or, Nat.or_zero]]
      obtain ⟨T', tw', x1, x2, x3⟩ := ih (k + 1) fu (sI T 506 257 (nI tw)) tw (by omega) (by omega) (Sh_sI hs _ _ _) (cl _ _ _ c1) (cl _ _ _ c2) (rd_eq _ _ _ _) hp hb
      exact ⟨T', tw', x1, Fr_trans (Fr_sI Fr_refl (by decide) _ _) x2, x3⟩
    · obtain ⟨s1, s2, s3⟩ := q2 rfl
      have or1 : tw ||| 2 ^ k < 2 ^ (k + 1) := Nat.or_lt_two_pow hp (Nat.pow_lt_pow_right (by decide) (by omega))
      rw [if_neg (show ¬ bI true = 0 by decide), z_i257 hs, qk_true, qv_eq, shl_1 k (by omega), nI_or]
      obtain ⟨T', tw', x1, x2, x3⟩ := ih (k + 1) fu (sI T 506 257 (nI (tw ||| 2 ^ k))) (tw ||| 2 ^ k) (by omega) (by omega) (Sh_sI hs _ _ _) (cl _ _ _ c1) (cl _ _ _ c2) (rd_eq _ _ _ _) or1 (fun i ti => by
        rw [bit_or (by omega)] at ti
        by_cases ei : k = i
        · rw [← ei]; exact ⟨by omega, by omega, fun j hj => s1 j (Nat.zero_le _) hj, s2, s3⟩
        · rw [decide_eq_false ei, Bool.or_false] at ti; exact hb i ti)
      exact ⟨T', tw', x1, Fr_trans (Fr_sI Fr_refl (by decide) _ _) x2, x3⟩
end PRP
