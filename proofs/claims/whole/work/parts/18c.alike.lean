/-! alike -/
section ALI
variable {S T : gk_S} {F t u : Nat} {L : AL}
theorem k_keepP (hF : 16400 ≤ F) (hs : Sh T) : ∃ T', f_X11_keepPoint F T 0 = some ((), T') ∧ Frm [811] [] [] [] [351] [] T T' ∧ gI T' 811 0 = 1 ∧ ∀ j, j < 7 → xJ T' 351 j = xJ T 258 j := k_keep2 7 0 F T (by omega) (by omega) hs (fun j hj => by omega)
theorem SeU_F {lI lJ lP rI' rJ' rP' : List Nat} (h : SeU S u) (f : Frm lI lJ lP rI' rJ' rP' S T) (e1 : 508 ∉ lJ) (e2 : 278 ∉ rJ') : SeU T u := by
  unfold SeU
  rw [f.2.2.2.2.1 508 257 e1, f.2.2.2.2.2.2.2.1 278 e2]
  exact h
theorem FA_T (f : FT S T) : FA S T := Fr_mono f (by simp) (by simp) (by simp) (by simp) (by simp) (by simp)
theorem FA_Sh (f : FA S T) (h : Sh S) : Sh T := Fr_Sh f h (by simp) (by simp)
/-- the class's end: the point is kept if there is one -/
theorem k_endK (hF : 16400 ≤ F) {P : (Nat → Nat) → Prop} {z : Bool} (hs : Sh T) (f : FT S T) (h1 : z = true → ∃ y, Lsf 0 P y ∧ ∀ k, k < 7 → xJ T 258 k = lN (y k)) (h2 : z = false → NDf 0 P) (se : SeU T u) : ∃ T', (if bI z = (0 : Int32) then (some (.inl 1, T)) else qk (isb T 0 8) <| qc (f_X11_keepPoint F T 0) fun _ S51 => some ((.inl 0, S51) : (Int32 ⊕ String) × gk_S)) = some (.inl (bI (!z)), T') ∧ FA S T' ∧ SeU T' u ∧ KP P S T' 811 0 351 z ∧ gI T' 925 = gI S 925 ∧ xJ T' 365 = xJ S 365 := by
  cases z
  · rw [if_pos (show bI false = 0 from rfl)]
    exact ⟨T, rfl, FA_T f, se, ⟨fun e => absurd e (by decide), fun _ => ⟨h2 rfl, f.2.2.2.1 _ _ (by simp), f.2.2.2.2.2.2.2.1 _ (by simp)⟩⟩, funext fun a => f.2.2.2.1 925 a (by simp), f.2.2.2.2.2.2.2.1 _ (by simp)⟩
  · obtain ⟨y, y1, y2⟩ := h1 rfl
    obtain ⟨T', r1, r2, r3, r4⟩ := k_keepP hF hs
    rw [if_neg (show ¬ bI true = 0 by decide), z_i0 hs, qk_true, r1, qc_some']
    refine ⟨T', rfl, Fr_trans (FA_T f) (Fr_mono r2 (by simp) (by simp) (by simp) (by simp) (by simp) (by simp)), SeU_F se r2 (by simp) (by simp), ⟨fun _ => ⟨r3, y, y1, fun k hk => by rw [r4 k hk]; exact y2 k hk⟩, fun e => absurd e (by decide)⟩, funext fun a => ?_, ?_⟩
    · rw [r2.2.2.2.1 925 a (by simp)]; exact f.2.2.2.1 925 a (by simp)
    · rw [r2.2.2.2.2.2.2.2.1 365 (by simp)]; exact f.2.2.2.2.2.2.2.1 365 (by simp)
/-- the law's end -/
theorem l_end {z : Bool} (hs : Sh T) {g : String → gk_S → Option (Int32 × gk_S)} : qh (some ((.inl (bI (!z)), T) : (Int32 ⊕ String) × gk_S)) (fun x3 S4 => if x3 = (0 : Int32) then (qk (isb S4 372 12) <| qk (inb 0 (gL S4 372)) <| qv (wJ S4 372 0 0) fun S16 => some ((0 : Int32), S16)) else qk (isb S4 372 12) <| qk (inb 0 (gL S4 372)) <| qv (wJ S4 372 0 1) fun S23 => some (0, S23)) g = some (0, wJ T 372 0 (bI (!z)).toInt64) := by
  rw [qh_inl']
  cases z
  · rw [if_neg (show ¬ bI (!false) = 0 by decide), z_i372 hs, qk_true, z_l372 hs, in0_1, qk_true, qv_eq]; rfl
  · rw [if_pos (show bI (!true) = 0 by decide), z_i372 hs, qk_true, z_l372 hs, in0_1, qk_true, qv_eq]; rfl
/-- both ends meet -/
theorem m_end {P : (Nat → Nat) → Prop} {z z' : Bool} {S1 S3 T2 : gk_S} (hI : Inv S t) (f1 : FA S S1) (se : SeU S1 u) (hu : u ≤ t + 1) (kp : KP P S S1 811 0 351 z) (e1 : gI S1 925 = gI S 925) (e2 : xJ S1 365 = xJ S 365) {v : Int64} (f2 : Frm [900, 926, 927, 930] [] [] [] [372] [] S1 S3) (f3 : Frm [925] [] [] [368] [365, 366, 367] [] S3 T2) (e5 : gI S3 900 352 = 0) (e6 : xJ S3 372 0 = v) (k2 : KP P S3 T2 925 352 365 z') : z = z' ∧ Inv T2 (t + 1) ∧ gI T2 900 352 = 0 ∧ xJ T2 372 0 = v := by
  have k2' : KP P S T2 925 352 365 z' := by
    refine ⟨k2.1, fun e => ?_⟩
    obtain ⟨a1, a2, a3⟩ := k2.2 e
    refine ⟨a1, ?_, ?_⟩
    · rw [a2, f2.2.2.2.1 925 352 (by simp), e1]
    · rw [a3, f2.2.2.2.2.2.2.2.1 365 (by simp), e2]
  have ez := KP_same kp k2'
  subst ez
  have kp' : KP P S T2 811 0 351 z := by
    have q1 : gI T2 811 0 = gI S1 811 0 := by rw [f3.2.2.2.1 811 0 (by simp), f2.2.2.2.1 811 0 (by simp)]
    have q2 : xJ T2 351 = xJ S1 351 := by rw [f3.2.2.2.2.2.2.2.1 351 (by simp), f2.2.2.2.2.2.2.2.1 351 (by simp)]
    unfold KP
    rw [q1, q2]
    exact kp
  have ff : FA S T2 := Fr_trans (Fr_trans f1 (Fr_mono f2 (by simp) (by simp) (by simp) (by simp) (by simp) (by simp))) (Fr_mono f3 (by simp) (by simp) (by simp) (by simp) (by simp) (by simp))
  refine ⟨rfl, FA_Inv (Inv_up hI (by omega)) ff (KP_Fnd hI kp' k2') (SeU_F (SeU_F se f2 (by simp) (by simp)) f3 (by simp) (by simp)) hu, ?_, ?_⟩
  · rw [f3.2.2.2.1 900 352 (by simp)]; exact e5
  · rw [f3.2.2.2.2.2.2.2.1 372 (by simp)]; exact e6
theorem Dm_self {a : Nat} : NDf 0 (Dm none L L 0 a a) := fun x _ h => h rfl
theorem c_alike (hI : Inv S t) (hF : 16400 ≤ F) (ht : t < 90000) (p q : Int32) : OkT (f_L_alike F S 0 p q 372) (fun S1 => f_X12_alike F S1 352 p q) (t + 1) := by
  have hI' := Inv_up hI (Nat.le_add_right t 1)
  obtain ⟨h0, -, -, -, -, i5, -, -, ⟨u, hu, se⟩⟩ := id hI
  obtain ⟨R, L, l1, l2, l3, l4, l5, l6⟩ := i5
  rcases ix_cases p (n := 4) (by omega) with hp | ⟨k, hk, rfl⟩
  · refine okT_thr hI' one_ne ?_ ?_
    · unfold f_L_alike f_X11_alike
      rw [z_i0 h0, qk_true, k_ckl' hp, qx_inr', qh_inr', if_pos rfl]
    · show f_X12_alike F (cS S) 352 p q = _
      unfold f_X12_alike
      rw [z_i352 (Sh_c h0), qk_true, m_nl' (Sh_c h0) hp, qc_some', if_neg one_ne]
  rcases ix_cases q (n := 4) (by omega) with hp | ⟨l, hl, rfl⟩
  · refine okT_thr hI' one_ne ?_ ?_
    · unfold f_L_alike f_X11_alike
      rw [z_i0 h0, qk_true, k_ckl hk, qx_inl', k_ckl' hp, qx_inr', qh_inr', if_pos rfl]
    · show f_X12_alike F (cS S) 352 (nI k) q = _
      unfold f_X12_alike
      rw [z_i352 (Sh_c h0), qk_true, m_nl (Sh_c h0) hk, qc_some', if_pos rfl, z_i352 (Sh_sI (Sh_c h0) _ _ _), qk_true, m_nl' (Sh_sI (Sh_c h0) _ _ _) hp, qc_some', if_neg one_ne, sI_sI]
  obtain ⟨wk, ck, mk⟩ := l5 k hk
  obtain ⟨wl, cl, ml⟩ := l5 l hl
  have hrk := l1 k (by omega)
  have hrl := l1 l (by omega)
  have bk := wk.1
  have bl := wl.1
  -- the class
  have cls : ∃ z T u', f_X11_alike F S 0 (nI k) (nI l) = some (.inl (bI (!z)), T) ∧ u' ≤ t + 1 ∧ FA S T ∧ SeU T u' ∧ KP (Dm none (L k) (L l) 0 (lowm (L k).n) (lowm (L l).n)) S T 811 0 351 z ∧ gI T 925 = gI S 925 ∧ xJ T 365 = xJ S 365 := by
    by_cases e : k = l
    · subst e
      refine ⟨false, S, u, ?_, by omega, Fr_refl, se, ⟨fun e => absurd e (by decide), fun _ => ⟨Dm_self, rfl, rfl⟩⟩, rfl, rfl⟩
      unfold f_X11_alike
      rw [k_ckl hk, qx_inl', k_ckl hk, qx_inl', if_pos rfl]
      rfl
    · obtain ⟨z, T, q1, q2, q3, q4, q5⟩ := k_apart (F := F) hF h0 hrk hrl wk wl ck cl se (by omega)
      have hT := FT_Sh q2 h0
      obtain ⟨T', r1, r2, r3, r4, r5, r6⟩ := k_endK (F := F) hF hT q2 q4 q5 q3
      refine ⟨z, T', u + 1, ?_, by omega, r2, r3, r4, r5, r6⟩
      have ne : ¬ nI k = nI l := fun e' => e ((nI_eq (by omega) (by omega)).mp e')
      have ak : aP S 5 (nI k) = some (R k) := by unfold aP; rw [nI_clamp (by omega)]; exact l3 k hk
      have al : aP S 5 (nI l) = some (R l) := by unfold aP; rw [nI_clamp (by omega)]; exact l3 l hl
      rw [← r1]
      unfold f_X11_alike
      rw [k_ckl hk, qx_inl', k_ckl hl, qx_inl', if_neg ne, z_i0 h0, qk_true, z_p804_0 h0, qP_some', z_p802_0 h0, qP_some', z_i5 h0, qk_true, z_l5 h0, inb_n hk (by omega), qk_true, ak, qP_some', qP_some', z_i5 h0, qk_true, z_l5 h0, inb_n hl (by omega), qk_true, al, qP_some', z_i257 h0, qk_true, q1, qc_some']
  obtain ⟨z, T, u', c1, hu', c2, c3, c4, c5, c6⟩ := cls
  have hT := FA_Sh c2 h0
  have a1 : f_L_alike F S 0 (nI k) (nI l) 372 = some (0, wJ T 372 0 (bI (!z)).toInt64) := by
    unfold f_L_alike
    rw [z_i0 h0, qk_true, c1, l_end hT]
  have g1 : Sh (wJ T 372 0 (bI (!z)).toInt64) := Sh_wJ hT _ _ _
  have g2 := Sh_sI g1 900 352 0
  have g5 : Sh (sI (sI (sI (sI (wJ T 372 0 (bI (!z)).toInt64) 900 352 0) 926 352 (nI k)) 927 352 (nI l)) 930 352 (-1)) := Sh_sI (Sh_sI (Sh_sI g2 _ _ _) _ _ _) _ _ _
  have f2 : Frm [900, 926, 927, 930] [] [] [] [372] [] T (sI (sI (sI (sI (wJ T 372 0 (bI (!z)).toInt64) 900 352 0) 926 352 (nI k)) 927 352 (nI l)) 930 352 (-1)) := Fr_sI (Fr_sI (Fr_sI (Fr_sI (Fr_wJ Fr_refl (by decide) _ _) (by decide) _ _) (by decide) _ _) (by decide) _ _) (by decide) _ _
  have x1 : gI (sI (sI (sI (sI (wJ T 372 0 (bI (!z)).toInt64) 900 352 0) 926 352 (nI k)) 927 352 (nI l)) 930 352 (-1)) 900 352 = 0 := by
    rw [rd_ne _ _ (Or.inl (by decide)), rd_ne _ _ (Or.inl (by decide)), rd_ne _ _ (Or.inl (by decide))]; exact rd_eq _ _ _ _
  have x2 : gI (sI (sI (sI (sI (wJ T 372 0 (bI (!z)).toInt64) 900 352 0) 926 352 (nI k)) 927 352 (nI l)) 930 352 (-1)) 926 352 = nI k := by
    rw [rd_ne _ _ (Or.inl (by decide)), rd_ne _ _ (Or.inl (by decide))]; exact rd_eq _ _ _ _
  have x3 : gI (sI (sI (sI (sI (wJ T 372 0 (bI (!z)).toInt64) 900 352 0) 926 352 (nI k)) 927 352 (nI l)) 930 352 (-1)) 927 352 = nI l := by
    rw [rd_ne _ _ (Or.inl (by decide))]; exact rd_eq _ _ _ _
  have x4 : gI (sI (sI (sI (sI (wJ T 372 0 (bI (!z)).toInt64) 900 352 0) 926 352 (nI k)) 927 352 (nI l)) 930 352 (-1)) 930 352 = -1 := rd_eq _ _ _ _
  have x5 : xJ (sI (sI (sI (sI (wJ T 372 0 (bI (!z)).toInt64) 900 352 0) 926 352 (nI k)) 927 352 (nI l)) 930 352 (-1)) 372 0 = (bI (!z)).toInt64 := by
    show xJ (wJ T 372 0 (bI (!z)).toInt64) 372 0 = _
    rw [show (0 : Int32) = nI 0 from rfl, rw_eq _ _ (by omega), if_pos rfl]
  have b1 : ∀ X, f_X12_looks F (sI (sI (sI (sI (wJ T 372 0 (bI (!z)).toInt64) 900 352 0) 926 352 (nI k)) 927 352 (nI l)) 930 352 (-1)) 352 (nI (lowm (L k).n)) (nI (lowm (L l).n)) = some X → aI (sI (sI (sI (sI (wJ T 372 0 (bI (!z)).toInt64) 900 352 0) 926 352 (nI k)) 927 352 (nI l)) 930 352 (-1)) 355 (nI k) = nI (L k).n → aI (sI (sI (sI (sI (wJ T 372 0 (bI (!z)).toInt64) 900 352 0) 926 352 (nI k)) 927 352 (nI l)) 930 352 (-1)) 355 (nI l) = nI (L l).n → f_X12_alike F (wJ T 372 0 (bI (!z)).toInt64) 352 (nI k) (nI l) = if X.1 = 0 then some (1, X.2) else some (0, X.2) := by
    intro X hX e1 e2
    have p1 := Nat.two_pow_pos (L k).n
    have p2 := Nat.two_pow_pos (L l).n
    have s1 : (1 : Int32) <<< (nI (L k).n &&& 31) - 1 = nI (lowm (L k).n) := by
      rw [shl_1 _ (by omega), show (1 : Int32) = nI 1 from rfl, pk_sub (by omega)]; rfl
    have s2 : (1 : Int32) <<< (nI (L l).n &&& 31) - 1 = nI (lowm (L l).n) := by
      rw [shl_1 _ (by omega), show (1 : Int32) = nI 1 from rfl, pk_sub (by omega)]; rfl
    unfold f_X12_alike
    rw [z_i352 g1, qk_true, m_nl g1 hk, qc_some', if_pos rfl, z_i352 g2, qk_true, m_nl g2 hl, qc_some', if_pos rfl, sI_sI, z_i352 g2, qk_true, qv_eq, qv_eq, qv_eq, z_p906_352 g5, qP_some', z_i355 g5, qk_true, z_l355 g5, inb_n (show k < 6 by omega) (by omega), qk_true, e1, qv_eq, qP_some', z_i355 g5, qk_true, z_l355 g5, inb_n (show l < 6 by omega) (by omega), qk_true, e2, qv_eq, s1, s2, hX, qc_some']
  generalize sI (sI (sI (sI (wJ T 372 0 (bI (!z)).toInt64) 900 352 0) 926 352 (nI k)) 927 352 (nI l)) 930 352 (-1) = S3 at g5 f2 x1 x2 x3 x4 x5 b1
  have fs : FA S S3 := Fr_trans c2 (Fr_mono f2 (by simp) (by simp) (by simp) (by simp) (by simp) (by simp))
  have sml : sML S S3 := ⟨fs.2.2.2.2.2.2.1 _ (by simp), fs.2.2.2.2.2.2.1 _ (by simp), fs.2.2.2.2.2.2.1 _ (by simp), fs.2.2.2.2.2.2.1 _ (by simp), fs.2.2.2.2.2.2.2.1 _ (by simp), fs.2.2.2.2.2.2.2.1 _ (by simp)⟩
  have mk3 := ML_c mk sml
  have ml3 := ML_c ml sml
  have sm : SM S3 k l (L k) (L l) none := ⟨g5, by omega, by omega, x2, x3, fun _ => x4, fun i e => (by cases e), mk3, ml3, wk, wl⟩
  obtain ⟨z', T2, v1, v2, v3, v4⟩ := v_looks (F := F) (a := lowm (L k).n) (b := lowm (L l).n) hF sm ⟨lowm_lt bk, fun i e => by rw [lowm_t] at e; exact of_decide_eq_true e⟩ ⟨lowm_lt bl, fun i e => by rw [lowm_t] at e; exact of_decide_eq_true e⟩ (fun e => absurd rfl e)
  have b2 := b1 (bI z', T2) v1 (by unfold aI; rw [nI_clamp (by omega)]; exact mk3.1) (by unfold aI; rw [nI_clamp (by omega)]; exact ml3.1)
  obtain ⟨ez, y1, y2, y3⟩ := m_end hI c2 c3 hu' c4 c5 c6 f2 v2 x1 x5 ⟨v3, v4⟩
  subst ez
  refine ⟨0, _, bI (!z), T2, a1, ?_, y2, fun _ => y3, y1⟩
  show f_X12_alike F _ 352 (nI k) (nI l) = _
  rw [b2]
  cases z
  · exact if_pos rfl
  · exact if_neg (show ¬ bI true = 0 by decide)
end ALI
