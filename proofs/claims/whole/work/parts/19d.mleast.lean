/-! least: the model -/
def KL (S T : gk_S) : Prop := ∀ k L, k < 4 → L.n ≤ 16 → ML S k L → ML T k L
def VF (S T : gk_S) : Prop := Frm [926, 927, 930] [] [] [354, 355, 356, 357, 368] [358, 359, 366, 367] [] S T
def cnt (i k : Nat) : Nat := if k ≤ i then k else k - 1
section MLE
variable {S T : gk_S} {F : Nat} {L M M' : AL}
theorem VF_L {Q : Nat → Prop} (h : LF Q S T) : VF S T := by
  obtain ⟨a1, a2, a3, a4, a5, a6, a7, a8, a9, a10, a11, a12⟩ := h
  exact ⟨a1, a2, a3, fun f a _ => by rw [a4], fun f a _ => by rw [a5], fun f a _ => by rw [a6], fun a q => a7 a (by simp at q; omega), fun a q => a10 a (by simp at q; omega) (by simp at q; omega), fun a _ => by rw [a12]⟩
theorem KL_L {q : Nat} (h : LF (fun k => k = q) S T) (hq : 4 ≤ q) : KL S T := fun k L hk hn l => LF_ML h l hn (fun e => by omega)
theorem KL_t {U : gk_S} (h : KL S T) (g : KL T U) : KL S U := fun k L hk hn l => g k L hk hn (h k L hk hn l)
theorem VF_Sh (f : VF S T) (h : Sh S) : Sh T := Fr_Sh f h (by simp) (by simp)
theorem ML_a {k : Nat} (f : Frm [926, 927, 930] [] [] [368] [366, 367] [] S T) (l : ML S k L) : ML T k L := ML_c l ⟨f.2.2.2.2.2.2.1 _ (by simp), f.2.2.2.2.2.2.1 _ (by simp), f.2.2.2.2.2.2.1 _ (by simp), f.2.2.2.2.2.2.1 _ (by simp), f.2.2.2.2.2.2.2.1 _ (by simp), f.2.2.2.2.2.2.2.1 _ (by simp)⟩
theorem v_alk (hF : 16400 ≤ F) (hs : Sh S) (m1 : ML S 4 M) (m2 : ML S 5 M') (w1 : WL M) (w2 : WL M') : ∃ z T, f_X12_areAlike F S 352 4 5 = some (bI (!z), T) ∧ Frm [926, 927, 930] [] [] [368] [366, 367] [] S T ∧ (z = true → ∃ y, Lsf 0 (Dm none M M' 0 (lowm M.n) (lowm M'.n)) y) ∧ (z = false → NDf 0 (Dm none M M' 0 (lowm M.n) (lowm M'.n))) := by
  have b1 := w1.1
  have b2 := w2.1
  have g5 : Sh (sI (sI (sI S 926 352 4) 927 352 5) 930 352 (-1)) := Sh_sI (Sh_sI (Sh_sI hs _ _ _) _ _ _) _ _ _
  have f2 : Frm [926, 927, 930] [] [] [368] [366, 367] [] S (sI (sI (sI S 926 352 4) 927 352 5) 930 352 (-1)) := Fr_sI (Fr_sI (Fr_sI Fr_refl (by decide) _ _) (by decide) _ _) (by decide) _ _
  have x2 : gI (sI (sI (sI S 926 352 4) 927 352 5) 930 352 (-1)) 926 352 = nI 4 := by
    rw [rd_ne _ _ (Or.inl (by decide)), rd_ne _ _ (Or.inl (by decide))]; exact rd_eq _ _ _ _
  have x3 : gI (sI (sI (sI S 926 352 4) 927 352 5) 930 352 (-1)) 927 352 = nI 5 := by
    rw [rd_ne _ _ (Or.inl (by decide))]; exact rd_eq _ _ _ _
  have x4 : gI (sI (sI (sI S 926 352 4) 927 352 5) 930 352 (-1)) 930 352 = -1 := rd_eq _ _ _ _
  have pre : ∀ T1, f_X12_forgetVain F (sI (sI (sI S 926 352 4) 927 352 5) 930 352 (-1)) 352 = some ((), T1) → Sh T1 → aI T1 355 4 = nI M.n → aI T1 355 5 = nI M'.n → f_X12_areAlike F S 352 4 5 = (qc (f_X12_goesOn_r F 8 T1 352 0 (nI (lowm M.n)) (nI (lowm M'.n))) fun x38 S39 => if x38 = (0 : Int32) then (some (1, S39)) else some (0, S39)) := by
    intro T1 e1 h1 e2 e3
    have p1 := Nat.two_pow_pos M.n
    have p2 := Nat.two_pow_pos M'.n
    have s1 : (1 : Int32) <<< (nI M.n &&& 31) - 1 = nI (lowm M.n) := by
      rw [shl_1 _ (by omega), show (1 : Int32) = nI 1 from rfl, pk_sub (by omega)]; rfl
    have s2 : (1 : Int32) <<< (nI M'.n &&& 31) - 1 = nI (lowm M'.n) := by
      rw [shl_1 _ (by omega), show (1 : Int32) = nI 1 from rfl, pk_sub (by omega)]; rfl
    unfold f_X12_areAlike
    rw [z_i352 hs, qk_true, qv_eq, qv_eq, qv_eq, e1, qc_some', z_i352 h1, qk_true, z_p906_352 h1, qP_some', z_i355 h1, qk_true, z_l355 h1, show inb 4 6 = true from rfl, qk_true, qv_eq, e2, qP_some', z_i355 h1, qk_true, z_l355 h1, show inb 5 6 = true from rfl, qk_true, qv_eq, e3, s1, s2]
  generalize sI (sI (sI S 926 352 4) 927 352 5) 930 352 (-1) = S3 at g5 f2 x2 x3 x4 pre
  have m1' := ML_a f2 m1
  have m2' := ML_a f2 m2
  have sm : SM S3 4 5 M M' none := ⟨g5, by omega, by omega, x2, x3, fun _ => x4, (fun i e => by cases e), m1', m2', w1, w2⟩
  obtain ⟨T1, r1, r2, r3, r4⟩ := v_forget (F := F) hF g5
  have sm1 := SM_F sm r2
  have f3 : Frm [926, 927, 930] [] [] [368] [366, 367] [] S3 T1 := Fr_mono r2 (by simp) (by simp) (by simp) (by simp) (by simp) (by simp)
  have m1'' := ML_a f3 m1'
  have m2'' := ML_a f3 m2'
  obtain ⟨z, T2, q1, q2, q3, q4, q5, q6⟩ := v_goes (F := F) (L1 := M) (L2 := M') (a := lowm M.n) (b := lowm M'.n) hF 6 0 (by omega) T1 sm1 (r3 _ _ _) ⟨lowm_lt b1, fun i e => by rw [lowm_t] at e; exact of_decide_eq_true e⟩ ⟨lowm_lt b2, fun i e => by rw [lowm_t] at e; exact of_decide_eq_true e⟩ (fun e => absurd rfl e)
  have q1' : f_X12_goesOn_r F 8 T1 352 0 (nI (lowm M.n)) (nI (lowm M'.n)) = some (bI z, T2) := q1
  rw [pre T1 r1 sm1.1 (show xI T1 355 4 = _ from m1''.1) (show xI T1 355 5 = _ from m2''.1), q1', qc_some']
  refine ⟨z, T2, ?_, Fr_trans (Fr_trans f2 f3) (Fr_mono q2 (by simp) (by simp) (by simp) (by simp) (by simp) (by simp)), fun e => ?_, q6⟩
  · cases z
    · exact if_pos rfl
    · exact if_neg (show ¬ bI true = 0 by decide)
  · obtain ⟨y, y1, -⟩ := q5 e
    exact ⟨y, y1⟩
theorem v_l59 (hF : 16400 ≤ F) (hn : M.n ≤ 16) {i : Nat} (hi : i < M.n) (k33 : Nat → Int32 → Int32 → gk_S → Option (Int32 × gk_S)) (l2 : Int32) : ∀ d k fu (T : gk_S), k + d = M.n → d < fu → Sh T → ML T 4 M → xI T 354 5 = nI M.p → xI T 355 5 = nI (cnt i k) → (∀ j, j < cnt i k → MR T (80 + j) ((drp M i).r j)) → ∃ T', f_X12_least_59 F k33 fu 352 l2 (nI i) (nI k) T = (qc (f_X12_areAlike F T' 352 4 5) fun x121 S122 => if x121 = (0 : Int32) then (k33 352 l2 (nI i + (-1)) S122) else qk (isb S122 352 9) <| qc (f_X12_copyList F S122 352 5 4) fun _ S130 => k33 352 l2 (nI i + (-1)) S130) ∧ LF (fun k => k = 5) T T' ∧ ML T' 5 (drp M i) := by
  intro d
  induction d with
  | zero =>
    intro k fu T h1 h2 hs m4 p5 n5 r5
    obtain ⟨fu, rfl⟩ : ∃ z, fu = z + 1 := ⟨fu - 1, by omega⟩
    have an : aI T 355 4 = nI M.n := m4.1
    have ec : cnt i k = M.n - 1 := by unfold cnt; rw [if_neg (by omega)]; omega
    rw [f_X12_least_59, z_i352 hs, qk_true, z_p906_352 hs, qP_some', z_i355 hs, qk_true, z_l355 hs, show inb 4 6 = true from rfl, qk_true, qv_eq, an, if_pos (nI_le (by omega) (by omega))]
    rw [ec] at n5 r5
    exact ⟨T, rfl, LF_refl, n5, p5, fun j hj => r5 j hj⟩
  | succ d ih =>
    intro k fu T h1 h2 hs m4 p5 n5 r5
    obtain ⟨fu, rfl⟩ : ∃ z, fu = z + 1 := ⟨fu - 1, by omega⟩
    have an : aI T 355 4 = nI M.n := m4.1
    rw [f_X12_least_59, z_i352 hs, qk_true, z_p906_352 hs, qP_some', z_i355 hs, qk_true, z_l355 hs, show inb 4 6 = true from rfl, qk_true, qv_eq, an, if_neg (nI_ge (by omega) (by omega)), nI_1]
    have ek : nI k = nI i ↔ k = i := nI_eq (by omega) (by omega)
    by_cases e : k = i
    · rw [if_pos (ek.mpr e)]
      have c1 : cnt i (k + 1) = cnt i k := by unfold cnt; rw [if_neg (by omega), if_pos (by omega)]; omega
      exact ih (k + 1) fu T (by omega) (by omega) hs m4 p5 (by rw [c1]; exact n5) (by rw [c1]; exact r5)
    · rw [if_neg (fun q => e (ek.mp q))]
      have c1 : cnt i (k + 1) = cnt i k + 1 := by
        unfold cnt
        by_cases q : k ≤ i
        · rw [if_pos q, if_pos (by omega)]
        · rw [if_neg q, if_neg (by omega)]; omega
      have c2 : cnt i k < 16 := by unfold cnt; split <;> omega
      have c3 : (drp M i).r (cnt i k) = M.r k := by
        show (if cnt i k < i then M.r (cnt i k) else M.r (cnt i k + 1)) = _
        unfold cnt
        by_cases q : k ≤ i
        · rw [if_pos q, if_pos (by omega)]
        · rw [if_neg q, if_neg (by omega), show k - 1 + 1 = k by omega]
      have a5 : aI T 355 5 = nI (cnt i k) := n5
      have e1 : (64 : Int32) + nI k = nI (64 + k) := by rw [show (64 : Int32) = nI 64 from rfl, nI_add]
      have e2 : (80 : Int32) + nI (cnt i k) = nI (80 + cnt i k) := by rw [show (80 : Int32) = nI 80 from rfl, nI_add]
      obtain ⟨T1, r1, r2, r3, r4, r6, r7⟩ := v_copyR (F := F) hF hs (x := 64 + k) (y := 80 + cnt i k) (by omega) (by omega) (by omega) (m4.2.2 k (by omega))
      have dq : (80 + cnt i k) / 16 = 5 := by omega
      rw [dq] at r2
      have s1 := LF_Sh r2 hs
      have a51 : aI T1 355 5 = nI (cnt i k) := by
        show xI T1 355 5 = _
        rw [r7]; exact n5
      have l2' : LF (fun k => k = 5) T (wI T1 355 5 (nI (cnt i k + 1))) := LF_wI (Q := fun k => k = 5) (i := 5) r2 (Or.inl ⟨Or.inr rfl, rfl⟩) (by omega) _
      have s2 := LF_Sh l2' hs
      have x5 : xI (wI T1 355 5 (nI (cnt i k + 1))) 355 5 = nI (cnt i k + 1) := (ri_eq T1 355 (i := 5) (by omega) _ 5).trans (if_pos rfl)
      have x4 : xI (wI T1 355 5 (nI (cnt i k + 1))) 354 5 = nI M.p := by rw [ri_ne _ _ _ _ (by decide), r6]; exact p5
      have mr : ∀ z σ, MR T1 z σ → MR (wI T1 355 5 (nI (cnt i k + 1))) z σ := fun z σ q => ⟨by rw [ri_ne _ _ _ _ (by decide)]; exact q.1, by rw [ri_ne _ _ _ _ (by decide)]; exact q.2.1, q.2.2⟩
      rw [qP_some', z_i355 hs, qk_true, z_l355 hs, show inb 5 6 = true from rfl, qk_true, qv_eq, a5, e1, e2, r1, qc_some', z_i352 s1, qk_true, z_p906_352 s1, qP_some', z_i355 s1, qk_true, z_l355 s1, show inb 5 6 = true from rfl, qk_true, qv_eq, a51, qk_true, nI_1, qv_eq]
      generalize wI T1 355 5 (nI (cnt i k + 1)) = T2 at l2' s2 x5 x4 mr
      obtain ⟨T', q1, q2, q3⟩ := ih (k + 1) fu T2 (by omega) (by omega) s2 (LF_ML l2' m4 hn (by omega)) x4 (by rw [c1]; exact x5) (fun j hj => by
        rw [c1] at hj
        by_cases ej : j = cnt i k
        · rw [ej, c3]; exact mr _ _ r3
        · exact mr _ _ (r4 _ _ (by omega) (r5 j (by omega))))
      exact ⟨T', q1, LF_trans l2' q2, q3⟩
theorem Dm_CQ {m d : Nat} (hn : L.n ≤ 16) (hm : ∀ i, Nat.testBit m i = true → i < L.n) (c : Cmp L m M) (c' : Cmp L (wo m d) M') : Dm none M M' 0 (lowm M.n) (lowm M'.n) = CQ L m d := by
  funext x
  show (acf M.r (αr M) (lowm M.n) M.p 0 x ≠ acf M'.r (αr M') (lowm M'.n) M'.p 0 x) = (acf L.r (αr L) m L.p 0 x ≠ acf L.r (αr L) (wo m d) L.p 0 x)
  rw [Cmp_acf hn hm c, Cmp_acf hn (fun i q => hm i (wo_in q).1) c']
theorem v_l33 (hF : 16400 ≤ F) (w : WL L) (l2 : Int32) : ∀ d fu m (M : AL) (T : gk_S), d ≤ L.n → d < fu → Sh T → ML T 4 M → Cmp L m M → (∀ i, Nat.testBit m i = true → i < L.n) → (∀ i, i < d → Nat.testBit m i = true) → ∃ T' m' M' fu', f_X12_least_33 F fu 352 l2 (dwn d) T = f_X12_least_33 F (fu' + 1) 352 l2 (dwn 0) T' ∧ VF T T' ∧ KL T T' ∧ ML T' 4 M' ∧ Cmp L m' M' ∧ NDr L d m m' := by
  have hn := w.1
  intro d
  induction d with
  | zero =>
    intro fu m M T h1 h2 hs m4 c hm ha
    obtain ⟨fu, rfl⟩ : ∃ z, fu = z + 1 := ⟨fu - 1, by omega⟩
    exact ⟨T, m, M, fu, rfl, Fr_refl, fun _ _ _ _ l => l, m4, c, rfl⟩
  | succ d ih =>
    intro fu m M T h1 h2 hs m4 c hm ha
    obtain ⟨fu, rfl⟩ : ∃ z, fu = z + 1 := ⟨fu - 1, by omega⟩
    obtain ⟨dM, c'⟩ := Cmp_wo hn (show d < L.n by omega) (fun i hi => ha i (by omega)) c
    have nM := Cmp_n c
    have wM := Cmp_W w c
    have wM' := Cmp_W w c'
    have s1 := Sh_wI hs 354 5 (nI M.p)
    have s2 := Sh_wI s1 355 5 0
    have f2 : LF (fun k => k = 5) T (wI (wI T 354 5 (nI M.p)) 355 5 0) := LF_wI (Q := fun k => k = 5) (i := 5) (LF_wI (Q := fun k => k = 5) (i := 5) LF_refl (Or.inl ⟨Or.inl rfl, rfl⟩) (by omega) _) (Or.inl ⟨Or.inr rfl, rfl⟩) (by omega) _
    have x5 : xI (wI (wI T 354 5 (nI M.p)) 355 5 0) 355 5 = nI 0 := (ri_eq (wI T 354 5 (nI M.p)) 355 (i := 5) (by omega) 0 5).trans (if_pos rfl)
    have x4 : xI (wI (wI T 354 5 (nI M.p)) 355 5 0) 354 5 = nI M.p := by rw [ri_ne _ _ _ _ (by decide)]; exact (ri_eq T 354 (i := 5) (by omega) _ 5).trans (if_pos rfl)
    have a4 : aI T 354 4 = nI M.p := m4.2.1
    have pre : f_X12_least_33 F (fu + 1) 352 l2 (dwn (d + 1)) T = f_X12_least_59 F (f_X12_least_33 F fu) F 352 l2 (nI d) (nI 0) (wI (wI T 354 5 (nI M.p)) 355 5 0) := by
      rw [f_X12_least_33, dwn_s, if_neg (show ¬ nI d < 0 from nI_pos (by omega)), z_i352 hs, qk_true, z_p905_352 hs, qP_some', qP_some', z_i354 hs, qk_true, z_l354 hs, show inb 4 6 = true from rfl, qk_true, qv_eq, a4, qk_true, show inb 5 6 = true from rfl, qk_true, qv_eq, z_p906_352 s1, qP_some', z_i355 s1, qk_true, z_l355 s1, show inb 5 6 = true from rfl, qk_true, qv_eq]
      rfl
    rw [pre]
    have m42 := LF_ML f2 m4 wM.1 (by omega)
    generalize wI (wI T 354 5 (nI M.p)) 355 5 0 = T2 at s2 f2 x5 x4 m42
    obtain ⟨T3, p1, p2, p3⟩ := v_l59 (F := F) hF wM.1 dM (f_X12_least_33 F fu) l2 M.n 0 F T2 (by omega) (by have := wM.1; omega) s2 m42 x4 x5 (fun j hj => absurd hj (by unfold cnt; rw [if_pos (Nat.zero_le _)]; omega))
    have f3 := LF_trans f2 p2
    have s3 := LF_Sh f3 hs
    have m43 := LF_ML f3 m4 wM.1 (by omega)
    obtain ⟨z, T4, q1, q2, q3, q4⟩ := v_alk (F := F) hF s3 m43 p3 wM wM'
    rw [Dm_CQ hn hm c c'] at q3 q4
    have f4 : VF T T4 := Fr_trans (VF_L f3) (Fr_mono q2 (by simp) (by simp) (by simp) (by simp) (by simp) (by simp))
    have s4 := VF_Sh f4 hs
    have k4 : KL T T4 := KL_t (KL_L f3 (by omega)) (fun k L _ _ l => ML_a q2 l)
    rw [p1, q1, qc_some', dwn_m (by omega)]
    cases z
    · rw [if_neg (show ¬ bI (!false) = 0 by decide), z_i352 s4, qk_true]
      obtain ⟨T5, t1, t2, t3⟩ := v_copyL (F := F) hF s4 (p := 5) (q := 4) (by omega) (by omega) (by omega) wM'.1 (ML_a q2 p3)
      have t1' : f_X12_copyList F T4 352 5 4 = some ((), T5) := t1
      rw [t1', qc_some']
      obtain ⟨T', m', M', fu', r1, r2, r3, r4, r5, r6⟩ := ih fu (wo m d) (drp M d) T5 (by omega) (by omega) (LF_Sh t2 s4) t3 c' (fun i q => hm i (wo_in q).1) (fun i hi => by rw [wo_t (by omega), ha i (by omega), decide_eq_false (by omega)]; rfl)
      exact ⟨T', m', M', fu', r1, Fr_trans (Fr_trans f4 (VF_L t2)) r2, KL_t (KL_t k4 (KL_L t2 (by omega))) r3, r4, r5, Or.inl ⟨q4 rfl, r6⟩⟩
    · rw [if_pos (show bI (!true) = 0 by decide)]
      obtain ⟨T', m', M', fu', r1, r2, r3, r4, r5, r6⟩ := ih fu m M T4 (by omega) (by omega) s4 (ML_a q2 m43) c hm (fun i hi => ha i (by omega))
      exact ⟨T', m', M', fu', r1, Fr_trans f4 r2, KL_t k4 r3, r4, r5, Or.inr ⟨q3 rfl, r6⟩⟩
end MLE
