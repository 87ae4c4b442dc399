/-! the class prepares: all cuts of a list -/
def FK (S T : gk_S) : Prop := Frm [] [] [] [275] [260, 261, 262, 263, 264, 265, 266] [] S T
def CUs (T : gk_S) (ms : Nat → Nat) (vs : Nat → Nat → Nat) : Prop := ∀ c, c < 7 → CU T c (ms c) (vs c)
def HAS (ms : Nat → Nat) (vs : Nat → Nat → Nat) (c w : Nat) : Prop := ∃ j, j < ms c ∧ vs c j = w
def GRW (ms : Nat → Nat) (vs : Nat → Nat → Nat) (ms' : Nat → Nat) (vs' : Nat → Nat → Nat) : Prop := ∀ c w, c < 7 → HAS ms vs c w → HAS ms' vs' c w
section CTS
variable {S T : gk_S} {F r : Nat} {L : AL}
theorem FK_Sh (f : FK S T) (h : Sh S) : Sh T := Fr_Sh f h (by simp) (by simp)
theorem FQ_FK {c : Nat} (hc : c < 7) (f : FQ c S T) : FK S T := Fr_mono f.1 (by simp) (by simp) (by simp) (by simp) (fun a ha => by
  rw [List.mem_singleton.mp ha]
  have : c = 0 ∨ c = 1 ∨ c = 2 ∨ c = 3 ∨ c = 4 ∨ c = 5 ∨ c = 6 := by omega
  rcases this with rfl | rfl | rfl | rfl | rfl | rfl | rfl <;> decide) (by simp)
theorem CR_FK {u : Nat} {ρ : AR} (hu : u + 2 < 256) (h : CR S u ρ) (f : FK S T) : CR T u ρ := CR_c h ⟨f.2.2.2.1 _ _ (by simp), f.2.2.2.1 _ _ (by simp), f.2.2.2.2.2.2.2.1 _ (by simp; omega), f.2.2.2.2.2.2.2.1 _ (by simp; omega)⟩
theorem CU_4 {m : Nat} {v : Nat → Nat} (h : CU T 6 m v) : m ≤ 4 := by
  obtain ⟨h1, h2, h3, h4, h5⟩ := h
  have ge : ∀ k, k < m → k ≤ v k := by
    intro k
    induction k with
    | zero => intro _; exact Nat.zero_le _
    | succ k ih =>
      intro hk
      have := ih (by omega)
      have := (h5 (k + 1) hk).2.2 k (by omega)
      omega
  rcases Nat.lt_or_ge 4 m with e | e
  · have a1 := ge 4 (by omega)
    have a2 : v 4 ≤ 3 := (h5 4 (by omega)).2.1
    omega
  · exact e
theorem k_add1 (hF : 16400 ≤ F) {ms : Nat → Nat} {vs : Nat → Nat → Nat} (hs : Sh T) (h : CUs T ms vs) {c w : Nat} (hc : c < 7) (hm : ms c < 65) (hw : w < 2 ^ 62) : ∃ T' ms' vs', f_X7_addCut F T 257 (nI c) (lN w) = some ((), T') ∧ FK T T' ∧ CUs T' ms' vs' ∧ (∀ c', c' ≠ c → ms' c' = ms c') ∧ ms' c ≤ ms c + 1 ∧ GRW ms vs ms' vs' ∧ (w ≤ tp c → HAS ms' vs' c w) := by
  obtain ⟨T', m', v', r1, r2, r3, r4, r5, r6, r7⟩ := k_addCut (F := F) hF hc hw hs (h c hc) hm
  refine ⟨T', fun j => if j = c then m' else ms j, fun j => if j = c then v' else vs j, r1, FQ_FK hc r2, fun c' hc' => ?_, fun c' e => if_neg e, ?_, fun c' x hc' q => ?_, fun e => ?_⟩
  · show CU T' c' (if c' = c then m' else ms c') (if c' = c then v' else vs c')
    by_cases e : c' = c
    · rw [if_pos e, if_pos e, e]; exact r3
    · rw [if_neg e, if_neg e]; exact CU_f (h c' hc') e r2
  · show (if c = c then m' else ms c) ≤ ms c + 1
    rw [if_pos rfl]; exact r5
  · obtain ⟨j, j1, j2⟩ := q
    by_cases e : c' = c
    · subst e
      obtain ⟨i, i1, i2⟩ := r6 j j1
      refine ⟨i, ?_, ?_⟩
      · show i < if c' = c' then m' else ms c'
        rw [if_pos rfl]; exact i1
      · show (if c' = c' then v' else vs c') i = x
        rw [if_pos rfl, i2, j2]
    · refine ⟨j, ?_, ?_⟩
      · show j < if c' = c then m' else ms c'
        rw [if_neg e]; exact j1
      · show (if c' = c then v' else vs c') j = x
        rw [if_neg e]; exact j2
  · obtain ⟨j, j1, j2⟩ := r7 e
    refine ⟨j, ?_, ?_⟩
    · show j < if c = c then m' else ms c
      rw [if_pos rfl]; exact j1
    · show (if c = c then v' else vs c) j = w
      rw [if_pos rfl]; exact j2
theorem GRW_t {ms ms1 ms2 : Nat → Nat} {vs vs1 vs2 : Nat → Nat → Nat} (h : GRW ms vs ms1 vs1) (g : GRW ms1 vs1 ms2 vs2) : GRW ms vs ms2 vs2 := fun c w hc q => g c w hc (h c w hc q)
theorem GRW_r {ms : Nat → Nat} {vs : Nat → Nat → Nat} : GRW ms vs ms vs := fun _ _ _ q => q
theorem k_ac23 (hF : 16400 ≤ F) (hr : Ba r) {j : Nat} (hj : j < 16) {ρ : AR} (wr : WR ρ) (K : Nat → Nat → Int32 → Int32 → gk_S → Option (Unit × gk_S)) (q : Int32) : ∀ d f fu (T : gk_S) ms vs, f + d = 6 → d < fu → Sh T → CUs T ms vs → CR T (ru r j) ρ → (∀ c, f ≤ c → c < 6 → ms c + 2 ≤ 65) → ∃ T' ms' vs', f_X7_addCuts_23 F K fu 257 r q (nI j) (ru r j) (nI f) T = K 257 r q (nI (j + 1)) T' ∧ FK T T' ∧ CUs T' ms' vs' ∧ (∀ c, c < 6 → ms' c ≤ ms c + 2) ∧ (∀ c, c < f → ms' c = ms c) ∧ GRW ms vs ms' vs' ∧ ∀ c, f ≤ c → c < 6 → HAS ms' vs' c (ρ.lo c) ∧ (ρ.hi c + 1 ≤ tp c → HAS ms' vs' c (ρ.hi c + 1)) := by
  have u := ru_lt hr hj
  intro d
  induction d with
  | zero =>
    intro f fu T ms vs h1 h2 hs cu cr hm
    obtain ⟨fu, rfl⟩ : ∃ z, fu = z + 1 := ⟨fu - 1, by omega⟩
    rw [f_X7_addCuts_23, if_pos (show (6 : Int32) ≤ nI f from nI_le (a := 6) (by omega) (by omega)), nI_1]
    exact ⟨T, ms, vs, rfl, Fr_refl, cu, fun c _ => by omega, fun _ _ => rfl, GRW_r, fun c c1 c2 => by omega⟩
  | succ d ih =>
    intro f fu T ms vs h1 h2 hs cu cr hm
    obtain ⟨fu, rfl⟩ : ∃ z, fu = z + 1 := ⟨fu - 1, by omega⟩
    have hf : f < 6 := by omega
    have wb := WR_lt wr hf
    have ul := z_ul hs hr hj
    have e1 : aJ T (ru r j + 1) (nI f) = lN (ρ.lo f) := by unfold aJ; rw [nI_clamp (by omega)]; exact (cr.2.2 f hf).1
    have m0 := hm f (Nat.le_refl _) hf
    obtain ⟨T1, ms1, vs1, a1, a2, a3, a4, a5, a6, a7⟩ := k_add1 (F := F) (w := ρ.lo f) hF hs cu (show f < 7 by omega) (by omega) (by omega)
    have hs1 := FK_Sh a2 hs
    have cr1 := CR_FK (by omega) cr a2
    have ul1 := z_ul hs1 hr hj
    have e2 : aJ T1 (ru r j + 2) (nI f) = lN (ρ.hi f) := by unfold aJ; rw [nI_clamp (by omega)]; exact (cr1.2.2 f hf).2
    have e3 : lN (ρ.hi f) + 1 = lN (ρ.hi f + 1) := by rw [show (1 : Int64) = lN 1 from rfl, lN_add]
    obtain ⟨T2, ms2, vs2, b1, b2, b3, b4, b5, b6, b7⟩ := k_add1 (F := F) (w := ρ.hi f + 1) hF hs1 a3 (show f < 7 by omega) (by omega) (by omega)
    have hs2 := FK_Sh b2 hs1
    have cr2 := CR_FK (by omega) cr1 b2
    obtain ⟨T3, ms3, vs3, d1, d2, d3, d4, d7, d5, d6⟩ := ih (f + 1) fu T2 ms2 vs2 (by omega) (by omega) hs2 b3 cr2 (fun c c1 c2 => by rw [b4 c (by omega), a4 c (by omega)]; exact hm c (by omega) c2)
    rw [f_X7_addCuts_23, if_neg (show ¬ (6 : Int32) ≤ nI f from nI_ge (b := 6) hf (by omega)), z_u hs hr hj, qk_true, z_up hs hr hj, qP_some', ul.1, qk_true, ul.2.1, inb_n hf (by omega), qk_true, qv_eq, e1, z_i257 hs, qk_true, a1, qc_some', z_u hs1 hr hj, qk_true, z_uq hs1 hr hj, qP_some', ul1.2.2.1, qk_true, ul1.2.2.2, inb_n hf (by omega), qk_true, qv_eq, e2, e3, z_i257 hs1, qk_true, b1, qc_some', nI_1]
    refine ⟨T3, ms3, vs3, d1, Fr_trans a2 (Fr_trans b2 d2), d3, fun c hc => ?_, fun c hc => ?_, GRW_t a6 (GRW_t b6 d5), fun c c1 c2 => ?_⟩
    · by_cases e : c = f
      · rw [d7 c (by omega), e]; omega
      · have := d4 c hc
        rw [b4 c e, a4 c e] at this
        exact this
    · rw [d7 c (by omega), b4 c (by omega), a4 c (by omega)]
    · by_cases e : c = f
      · rw [e]
        exact ⟨d5 f _ (by omega) (b6 f _ (by omega) (a7 (by omega))), fun q => d5 f _ (by omega) (b7 q)⟩
      · exact d6 c (by omega) c2
theorem k_ac74 (hF : 16400 ≤ F) : ∀ d s fu (T : gk_S) ms vs, s + d = 4 → d < fu → Sh T → CUs T ms vs → ∃ T' ms' vs', f_X7_addCuts_74 F fu 257 (nI s) T = some ((), T') ∧ FK T T' ∧ CUs T' ms' vs' ∧ (∀ c, c < 6 → ms' c = ms c) ∧ GRW ms vs ms' vs' ∧ ∀ w, s ≤ w → w < 4 → HAS ms' vs' 6 w := by
  intro d
  induction d with
  | zero =>
    intro s fu T ms vs h1 h2 hs cu
    obtain ⟨fu, rfl⟩ : ∃ z, fu = z + 1 := ⟨fu - 1, by omega⟩
    rw [f_X7_addCuts_74, if_pos (show (4 : Int32) ≤ nI s from nI_le (a := 4) (by omega) (by omega))]
    exact ⟨T, ms, vs, rfl, Fr_refl, cu, fun _ _ => rfl, GRW_r, fun w w1 w2 => by omega⟩
  | succ d ih =>
    intro s fu T ms vs h1 h2 hs cu
    obtain ⟨fu, rfl⟩ : ∃ z, fu = z + 1 := ⟨fu - 1, by omega⟩
    have m4 := CU_4 (cu 6 (by omega))
    obtain ⟨T1, ms1, vs1, a1, a2, a3, a4, a5, a6, a7⟩ := k_add1 (F := F) (c := 6) (w := s) hF hs cu (by omega) (by omega) (by omega)
    have hs1 := FK_Sh a2 hs
    obtain ⟨T2, ms2, vs2, b1, b2, b3, b4, b5, b6⟩ := ih (s + 1) fu T1 ms1 vs1 (by omega) (by omega) hs1 a3
    have a1' : f_X7_addCut F T 257 6 (lN s) = some ((), T1) := a1
    rw [f_X7_addCuts_74, if_neg (show ¬ (4 : Int32) ≤ nI s from nI_ge (b := 4) (by omega) (by omega)), z_i257 hs, qk_true, nI_l (by omega), a1', qc_some', nI_1]
    refine ⟨T2, ms2, vs2, b1, Fr_trans a2 b2, b3, fun c hc => by rw [b4 c hc, a4 c (by omega)], GRW_t a6 b5, fun w w1 w2 => ?_⟩
    by_cases e : w = s
    · rw [e]
      exact b5 6 s (by omega) (a7 (by show s ≤ 3; omega))
    · exact b6 w (by omega) w2
theorem k_addCuts (hF : 16400 ≤ F) (hr : Ba r) (w : WL L) {n : Nat} (hn : n ≤ L.n) : ∀ d fu (T : gk_S) ms vs, d ≤ n → d < fu → Sh T → CUs T ms vs → CL T r L → (∀ c, c < 6 → ms c + 2 * d ≤ 65) → ∃ T' ms' vs', f_X7_addCuts_2 F fu 257 r (nI n) (nI (n - d)) T = some ((), T') ∧ FK T T' ∧ CUs T' ms' vs' ∧ (∀ c, c < 6 → ms' c ≤ ms c + 2 * d) ∧ GRW ms vs ms' vs' ∧ (∀ j, n - d ≤ j → j < n → ∀ c, c < 6 → HAS ms' vs' c ((L.r j).lo c) ∧ ((L.r j).hi c + 1 ≤ tp c → HAS ms' vs' c ((L.r j).hi c + 1))) ∧ ∀ x, 1 ≤ x → x < 4 → HAS ms' vs' 6 x := by
  have n16 := w.1
  intro d
  induction d with
  | zero =>
    intro fu T ms vs h1 h2 hs cu cl hm
    obtain ⟨fu, rfl⟩ : ∃ z, fu = z + 1 := ⟨fu - 1, by omega⟩
    obtain ⟨T', ms', vs', a1, a2, a3, a4, a5, a6⟩ := k_ac74 (F := F) hF 3 1 F T ms vs (by omega) (by omega) hs cu
    have a1' : f_X7_addCuts_74 F F 257 1 T = some ((), T') := a1
    rw [f_X7_addCuts_2, if_pos (nI_le (by omega) (by omega)), a1']
    exact ⟨T', ms', vs', rfl, a2, a3, fun c hc => by rw [a4 c hc]; omega, a5, fun j j1 j2 => by omega, a6⟩
  | succ d ih =>
    intro fu T ms vs h1 h2 hs cu cl hm
    obtain ⟨fu, rfl⟩ : ∃ z, fu = z + 1 := ⟨fu - 1, by omega⟩
    have hj : n - (d + 1) < 16 := by omega
    have cr := cl.2.2 (n - (d + 1)) (by omega)
    obtain ⟨T1, ms1, vs1, a1, a2, a3, a4, a5, a6, a7⟩ := k_ac23 (F := F) hF hr hj (w.2.2 _ (by omega)) (f_X7_addCuts_2 F fu) (nI n) 6 0 F T ms vs (by omega) (by omega) hs cu cr (fun c _ hc => by have := hm c hc; omega)
    have hs1 := FK_Sh a2 hs
    have cl1 : CL T1 r L := CL_c cl (a2.2.2.2.1 _ _ (by simp)) (a2.2.2.2.1 _ _ (by simp)) (fun i hi => by
      have u := ru_lt hr (show i < 16 by omega)
      exact ⟨a2.2.2.2.1 _ _ (by simp), a2.2.2.2.1 _ _ (by simp), a2.2.2.2.2.2.2.2.1 _ (by simp; omega), a2.2.2.2.2.2.2.2.1 _ (by simp; omega)⟩)
    obtain ⟨T2, ms2, vs2, b1, b2, b3, b4, b5, b6, b7⟩ := ih fu T1 ms1 vs1 (by omega) (by omega) hs1 a3 cl1 (fun c hc => by have := hm c hc; have := a4 c hc; omega)
    have a1' : f_X7_addCuts_23 F (f_X7_addCuts_2 F fu) F 257 r (nI n) (nI (n - (d + 1))) (ru r (n - (d + 1))) 0 T = f_X7_addCuts_2 F fu 257 r (nI n) (nI (n - (d + 1) + 1)) T1 := a1
    rw [f_X7_addCuts_2, if_neg (nI_ge (by omega) (by omega)), if_neg (show ¬ (16 : Int32) ≤ nI (n - (d + 1)) from nI_ge (b := 16) hj (by omega)), z_r hs hr, qk_true, k_at hs hr hj, qc_some', a1', show n - (d + 1) + 1 = n - d by omega, b1]
    refine ⟨T2, ms2, vs2, rfl, Fr_trans a2 b2, b3, fun c hc => by have := b4 c hc; have := a4 c hc; omega, GRW_t a6 b5, fun j j1 j2 c hc => ?_, b7⟩
    by_cases e : j = n - (d + 1)
    · rw [e]
      obtain ⟨x1, x2⟩ := a7 c (Nat.zero_le _) hc
      exact ⟨b5 c _ (by omega) x1, fun q => b5 c _ (by omega) (x2 q)⟩
    · exact b6 j (by omega) j2 c hc
end CTS
