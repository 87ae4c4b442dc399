/-! least: the model's call -/
section VLE
variable {S T : gk_S} {F : Nat} {L : AL}
def VG (S T : gk_S) : Prop := Frm [900, 926, 927, 930] [] [] [354, 355, 356, 357, 360, 368] [358, 359, 366, 367] [] S T
theorem VG_V (h : VF S T) : VG S T := Fr_mono h (by simp) (by simp) (by simp) (by simp) (by simp) (by simp)
theorem VG_3 (h : Frm [] [] [] [360] [] [] S T) : VG S T := Fr_mono h (by simp) (by simp) (by simp) (by simp) (by simp) (by simp)
theorem ML_3 {k : Nat} (f : Frm [] [] [] [360] [] [] S T) (l : ML S k L) : ML T k L := ML_c l ⟨f.2.2.2.2.2.2.1 _ (by simp), f.2.2.2.2.2.2.1 _ (by simp), f.2.2.2.2.2.2.1 _ (by simp), f.2.2.2.2.2.2.1 _ (by simp), f.2.2.2.2.2.2.2.1 _ (by simp), f.2.2.2.2.2.2.2.1 _ (by simp)⟩
theorem v_least (hF : 16400 ≤ F) (hs : Sh S) {k to : Nat} (hk : k < 4) (ht : to < 4) (w : WL L) (ml : ML S k L) : ∃ T m M, f_X12_least F S 352 (nI k) (nI to) = some (nI M.n, T) ∧ VG S T ∧ (∀ j L', j < 4 → j ≠ to → L'.n ≤ 16 → ML S j L' → ML T j L') ∧ ML T to M ∧ Cmp L m M ∧ NDr L L.n (lowm L.n) m ∧ gI T 900 352 = 0 ∧ (to = 0 → ∀ j, j < 17 → xI T 360 j = 0) ∧ (to ≠ 0 → xI T 360 = xI S 360) := by
  have hn := w.1
  have g2 := Sh_sI hs 900 352 0
  have f1 : VG S (sI S 900 352 0) := Fr_sI Fr_refl (by decide) _ _
  have e9 : gI (sI S 900 352 0) 900 352 = 0 := rd_eq _ _ _ _
  have kl1 : KL S (sI S 900 352 0) := fun _ _ _ _ l => l
  have m1 : ML (sI S 900 352 0) k L := ml
  have x1 : xI (sI S 900 352 0) 360 = xI S 360 := rfl
  obtain ⟨T1, c1, c2, c3⟩ := v_copyL (F := F) hF g2 (p := k) (q := 4) (by omega) (by omega) (by omega) hn m1
  have c1' : f_X12_copyList F (sI S 900 352 0) 352 (nI k) 4 = some ((), T1) := c1
  have s1 := LF_Sh c2 g2
  obtain ⟨T2, m, M, fu, r1, r2, r3, r4, r5, r6⟩ := v_l33 (F := F) hF w (nI to) L.n F (lowm L.n) L T1 (Nat.le_refl _) (by omega) s1 c3 Cmp_0 (fun i e => by rw [lowm_t] at e; exact of_decide_eq_true e) (fun i hi => by rw [lowm_t]; exact decide_eq_true hi)
  have s2 := VF_Sh r2 s1
  have wM := Cmp_W w r5
  obtain ⟨T3, t1, t2, t3⟩ := v_copyL (F := F) hF s2 (p := 4) (q := to) (by omega) (by omega) (by omega) wM.1 r4
  have t1' : f_X12_copyList F T2 352 4 (nI to) = some ((), T3) := t1
  have s3 := LF_Sh t2 s2
  have f3 : VG S T3 := Fr_trans (Fr_trans (Fr_trans f1 (VG_V (VF_L c2))) (VG_V r2)) (VG_V (VF_L t2))
  have l3 : ∀ j L', j < 4 → j ≠ to → L'.n ≤ 16 → ML S j L' → ML T3 j L' := fun j L' h1 h2 h3 l => LF_ML t2 (KL_t (KL_t kl1 (KL_L c2 (by omega))) r3 j L' h1 h3 l) h3 h2
  have e93 : gI T3 900 352 = 0 := by
    rw [(VF_L t2).2.2.2.1 900 352 (by simp), r2.2.2.2.1 900 352 (by simp), (VF_L c2).2.2.2.1 900 352 (by simp)]; exact e9
  have x3 : xI T3 360 = xI S 360 := by
    rw [(VF_L t2).2.2.2.2.2.2.1 360 (by simp), r2.2.2.2.2.2.2.1 360 (by simp), (VF_L c2).2.2.2.2.2.2.1 360 (by simp)]; exact x1
  have an : aI T1 355 4 = nI L.n := c3.1
  have pre : f_X12_least F S 352 (nI k) (nI to) = (if nI to = (0 : Int32) then (qk (isb T3 352 9) <| qc (f_X12_forgetTold F T3 352) fun x59 S60 => qk (isb S60 352 9) <| qP (gP S60 906 352) fun b65 => qk (isb S60 b65 11) <| qk (inb (nI to) (gL S60 b65)) <| qv (aI S60 b65 (nI to)) fun x72 => some (x72, S60)) else qk (isb T3 352 9) <| qP (gP T3 906 352) fun b47 => qk (isb T3 b47 11) <| qk (inb (nI to) (gL T3 b47)) <| qv (aI T3 b47 (nI to)) fun x54 => some (x54, T3)) := by
    unfold f_X12_least
    rw [z_i352 hs, qk_true, m_nl hs hk, qc_some', if_pos rfl, z_i352 g2, qk_true, m_nl g2 ht, qc_some', if_pos rfl, sI_sI, z_i352 g2, qk_true, c1', qc_some', z_i352 s1, qk_true, z_p906_352 s1, qP_some', z_i355 s1, qk_true, z_l355 s1, show inb 4 6 = true from rfl, qk_true, qv_eq, an, dwn_m' hn, r1, f_X12_least_33, if_pos dwn_0, z_i352 s2, qk_true, t1', qc_some']
  rw [pre]
  have e0 : nI to = 0 ↔ to = 0 := nI_eq (b := 0) (by omega) (by omega)
  by_cases q : to = 0
  · rw [if_pos (e0.mpr q)]
    obtain ⟨T4, y1, y2, y3⟩ := v_fgt (F := F) 17 0 F T3 s3 (by omega) (by omega) (fun j hj => by omega)
    have y1' : f_X12_forgetTold F T3 352 = some ((), T4) := y1
    have s4 := Fr_Sh y2 s3 (by simp) (by simp)
    have m4 := ML_3 y2 t3
    have an4 : aI T4 355 (nI to) = nI M.n := by unfold aI; rw [nI_clamp (by omega)]; exact m4.1
    rw [z_i352 s3, qk_true, y1', qc_some', z_i352 s4, qk_true, z_p906_352 s4, qP_some', z_i355 s4, qk_true, z_l355 s4, inb_n (show to < 6 by omega) (by omega), qk_true, qv_eq, an4]
    exact ⟨T4, m, M, rfl, Fr_trans f3 (VG_3 y2), fun j L' h1 h2 h3 l => ML_3 y2 (l3 j L' h1 h2 h3 l), m4, r5, r6, by rw [y2.2.2.2.1 900 352 (by simp)]; exact e93, fun _ => y3, fun h => absurd q h⟩
  · rw [if_neg (fun h => q (e0.mp h))]
    have an4 : aI T3 355 (nI to) = nI M.n := by unfold aI; rw [nI_clamp (by omega)]; exact t3.1
    rw [z_i352 s3, qk_true, z_p906_352 s3, qP_some', z_i355 s3, qk_true, z_l355 s3, inb_n (show to < 6 by omega) (by omega), qk_true, qv_eq, an4]
    exact ⟨T3, m, M, rfl, f3, l3, t3, r5, r6, e93, fun h => absurd h q, fun _ => x3⟩
end VLE
/-! what least may change -/
def WI : List Nat := [506, 701, 702, 703, 704, 705, 706, 707, 708, 709, 710, 900, 926, 927, 930]
def WJ : List Nat := [508, 701, 702, 703, 704, 705, 706, 707, 708, 709, 710]
def WX : List Nat := [268, 269, 270, 271, 272, 273, 274, 275, 276, 277, 354, 355, 356, 357, 360, 368]
def WY : List Nat := [258, 260, 261, 262, 263, 264, 265, 266, 278, 358, 359, 366, 367, 372]
def WF (r : Nat) (S T : gk_S) : Prop := gk_n T = gk_n S ∧ gk_K T = gk_K S ∧ gL T = gL S ∧ (∀ f a, f ∉ WI → ¬ (r ≤ a ∧ a < r + 50) → gI T f a = gI S f a) ∧ (∀ f a, f ∉ WJ → gJ T f a = gJ S f a) ∧ (∀ f a, f ≠ 810 → gP T f a = gP S f a) ∧ (∀ a, a ∉ WX → xI T a = xI S a) ∧ (∀ a, a ∉ WY → ¬ (r ≤ a ∧ a < r + 50) → xJ T a = xJ S a) ∧ ∀ a, a ≠ 5 → xP T a = xP S a
section WFR
variable {S T U : gk_S} {r : Nat}
theorem WF_trans (h : WF r S T) (g : WF r T U) : WF r S U := by
  obtain ⟨a1, a2, a3, a4, a5, a6, a7, a8, a9⟩ := h
  obtain ⟨b1, b2, b3, b4, b5, b6, b7, b8, b9⟩ := g
  exact ⟨b1.trans a1, b2.trans a2, b3.trans a3, fun f a q p => (b4 f a q p).trans (a4 f a q p), fun f a q => (b5 f a q).trans (a5 f a q), fun f a q => (b6 f a q).trans (a6 f a q), fun a q => (b7 a q).trans (a7 a q), fun a q p => (b8 a q p).trans (a8 a q p), fun a q => (b9 a q).trans (a9 a q)⟩
theorem WF_F {lI lJ rI' rJ' : List Nat} (h : Frm lI lJ [] rI' rJ' [] S T) (e1 : ∀ f ∈ lI, f ∈ WI) (e2 : ∀ f ∈ lJ, f ∈ WJ) (e3 : ∀ f ∈ rI', f ∈ WX) (e4 : ∀ f ∈ rJ', f ∈ WY) : WF r S T := by
  obtain ⟨a1, a2, a3, a4, a5, a6, a7, a8, a9⟩ := h
  exact ⟨a1, a2, a3, fun f a q _ => a4 f a (fun x => q (e1 f x)), fun f a q => a5 f a (fun x => q (e2 f x)), fun f a _ => a6 f a (by simp), fun a q => a7 a (fun x => q (e3 a x)), fun a q _ => a8 a (fun x => q (e4 a x)), fun a _ => a9 a (by simp)⟩
theorem WJ_7 {f : Nat} (h : 701 ≤ f ∧ f ≤ 710) : f ∈ WI ∧ f ∈ WJ := by
  have : f = 701 ∨ f = 702 ∨ f = 703 ∨ f = 704 ∨ f = 705 ∨ f = 706 ∨ f = 707 ∨ f = 708 ∨ f = 709 ∨ f = 710 := by omega
  rcases this with rfl | rfl | rfl | rfl | rfl | rfl | rfl | rfl | rfl | rfl <;> decide
theorem WF_D (h : DF r S T) : WF r S T := by
  obtain ⟨a1, a2, a3, a4, a5, a6, a7, a8, a9⟩ := h
  exact ⟨a1, a2, a3, fun f a q p => a4 f a (fun x => q (WJ_7 x).1) p, fun f a q => a5 f a (fun x => q (WJ_7 x).2), fun f a _ => by rw [a6], fun a _ => by rw [a7], fun a _ p => a8 a p, fun a _ => by rw [a9]⟩
theorem WF_wP (h : WF r S T) (i : Int32) (v : Nat) : WF r S (wP T 5 i v) := WF_trans h ⟨rfl, rfl, rfl, fun _ _ _ _ => rfl, fun _ _ _ => rfl, fun _ _ _ => rfl, fun _ _ => rfl, fun _ _ _ => rfl, fun a q => by rw [xP_wP, if_neg q]⟩
theorem WF_sP (h : WF r S T) (a : Nat) (v : Option Nat) : WF r S (sP T 810 a v) := WF_trans h ⟨rfl, rfl, rfl, fun _ _ _ _ => rfl, fun _ _ _ => rfl, fun f c q => by rw [gP_sP, if_neg (fun e => q e.1)], fun _ _ => rfl, fun _ _ _ => rfl, fun _ _ => rfl⟩
theorem WF_Sh (h : WF r S T) (s : Sh S) : Sh T := by
  obtain ⟨h1, h2, h3, h4, h5, p8, h7, h8, x8⟩ := h
  obtain ⟨s1, s2, s3, s4, s5⟩ := s
  refine ⟨h1.trans s1, fun a ha => by rw [h2, h3]; exact s2 a ha, fun q hq => ?_, fun k hk => ⟨by rw [p8 _ _ (by decide)]; exact (s4 k hk).1, fun i hi => ⟨by rw [x8 _ (by omega)]; exact ((s4 k hk).2 i hi).1, by rw [p8 _ _ (by decide), p8 _ _ (by decide)]; exact ((s4 k hk).2 i hi).2⟩⟩, fun i hi => ⟨by rw [x8 _ (by omega)]; exact (s5 i hi).1, by rw [x8 _ (by omega)]; exact (s5 i hi).2⟩⟩
  rw [p8]
  · exact s3 q hq
  · have : ∀ q ∈ shP, q.1 ≠ 810 := by decide
    exact this q hq
theorem WY_b {a : Nat} (h : a < 256) : a ∉ WY := fun q => by
  have : ∀ a ∈ WY, 256 ≤ a := by decide
  have := this a q
  omega
theorem WF_CL (h : WF r S T) (hr : Ba r) {r' : Nat} (hr' : Ba r') (n : r ≠ r') {L : AL} (c : CL S r' L) (hn : L.n ≤ 16) : CL T r' L ∧ gI T 403 r' = gI S 403 r' ∧ ∀ i, i < L.n → gI T 304 (ru r' i) = gI S 304 (ru r' i) := by
  have hb := Ba_lt hr'
  obtain ⟨h1, h2, h3, h4, h5, p8, h7, h8, x8⟩ := h
  have d : ∀ {a}, r' ≤ a ∧ a < r' + 50 → ¬ (r ≤ a ∧ a < r + 50) := fun q => Ba_dis hr hr' n q
  refine ⟨CL_c c (h4 _ _ (by decide) (d (by omega))) (h4 _ _ (by decide) (d (by omega))) (fun i hi => ?_), h4 _ _ (by decide) (d (by omega)), fun i hi => h4 _ _ (by decide) (d (ru_in (by omega)).1)⟩
  have u := ru_in (r := r') (show i < 16 by omega)
  exact ⟨h4 _ _ (by decide) (d u.1), h4 _ _ (by decide) (d u.1), h8 _ (WY_b (by omega)) (d u.2.1), h8 _ (WY_b (by omega)) (d u.2.2)⟩
theorem WF_Inv {t u : Nat} (hI : Inv S t) (h : WF r S T) (hr : Ba r) (ls : Ls T) (se : SeU T u) (hu : u ≤ t) : Inv T t := by
  have hb := Ba_lt hr
  obtain ⟨h0, i1, i2, i3, i4, i5, i6, i7, i8⟩ := hI
  have s := WF_Sh h h0
  obtain ⟨h1, h2, h3, h4, h5, p8, h7, h8, x8⟩ := h
  have nr : ∀ {a : Nat}, a < 6 ∨ 256 ≤ a → ¬ (r ≤ a ∧ a < r + 50) := fun q p => by obtain ⟨k, hk, rfl⟩ := hr; omega
  refine ⟨s, Tp_c i1 (h4 _ _ (by decide) (nr (by omega))) (h4 _ _ (by decide) (nr (by omega))) (h7 _ (by decide)) (h7 _ (by decide)), Ot_c i2 (h4 _ _ (by decide) (nr (by omega))) (h4 _ _ (by decide) (nr (by omega))) (h7 _ (by decide)) (h7 _ (by decide)), Fnd_c i3 (h4 _ _ (by decide) (nr (by omega))) (h4 _ _ (by decide) (nr (by omega))) (h4 _ _ (by decide) (nr (by omega))) (h4 _ _ (by decide) (nr (by omega))) (h8 _ (by decide) (nr (by omega))) (h8 _ (by decide) (nr (by omega))), Wd_c i4 (h7 _ (by decide)) (h7 _ (by decide)), ls, ?_, Lp_c i7 (h8 _ (by decide) (nr (by omega))) (h4 _ _ (by decide) (nr (by omega))) (h7 _ (by decide)), u, hu, se.1, se.2⟩
  obtain ⟨Q, C, n, mx, tm, g1, g2, g3, g4, f1, f2, f3, f4, f5, f6, f7, f8, f9, p1, p2, p3⟩ := i6
  refine ⟨Q, C, n, mx, tm, g1, g2, g3, g4, (h4 _ _ (by decide) (nr (by omega))).trans f1, (h4 _ _ (by decide) (nr (by omega))).trans f2, (h4 _ _ (by decide) (nr (by omega))).trans f3, (h4 _ _ (by decide) (nr (by omega))).trans f4, (h4 _ _ (by decide) (nr (by omega))).trans f5, (h4 _ _ (by decide) (nr (by omega))).trans f6, ?_, ?_, ?_, fun i hi => by rw [x8 _ (by omega)]; exact p1 i hi, p2, fun i hi => ⟨(p3 i hi).1, ?_, fun j hj => by rw [h7 _ (by decide)]; exact (p3 i hi).2.2 j hj⟩⟩
  · rw [h4 _ _ (by decide) (nr (by omega)), h4 _ _ (by decide) (nr (by omega))]; exact f7
  · rw [h4 _ _ (by decide) (nr (by omega)), h4 _ _ (by decide) (nr (by omega))]; exact f8
  · rw [h4 _ _ (by decide) (nr (by omega)), h4 _ _ (by decide) (nr (by omega))]; exact f9
  · have q := p1 i (by omega)
    exact CC_c (p3 i hi).2.1 ⟨h4 _ _ (by decide) (nr (by omega)), h5 _ _ (by decide), h5 _ _ (by decide), h5 _ _ (by decide), h5 _ _ (by decide), h4 _ _ (by decide) (nr (by omega)), h4 _ _ (by decide) (nr (by omega)), h4 _ _ (by decide) (nr (by omega)), h4 _ _ (by decide) (nr (by omega))⟩
end WFR
