/-! what the class reaches; both searches hold the same point -/
section REA
variable {S T : gk_S} {F u r : Nat} {L : AL}
theorem fa_reach {ρ : Nat → AR} {i : Nat} (x : Nat → Nat) : ∀ d j, j ≤ i → i < j + d → (fa ρ (fun k => if k = i then 1 else 0) (lowm (i + 1)) 0 0 x d j ≠ 0 ↔ mt7 (ρ i) 0 x = true ∧ ∀ k, j ≤ k → k < i → mt7 (ρ k) 0 x = false) := by
  intro d
  induction d with
  | zero => intro j h1 h2; omega
  | succ d ih =>
    intro j h1 h2
    rw [fa, lowm_t, decide_eq_true (show j < i + 1 by omega), Bool.true_and]
    by_cases e : j = i
    · subst e
      by_cases q : mt7 (ρ j) 0 x = true
      · rw [if_pos q, if_pos rfl]
        exact ⟨fun _ => ⟨q, fun k k1 k2 => by omega⟩, fun _ => by decide⟩
      · rw [if_neg q]
        have z : fa ρ (fun k => if k = j then 1 else 0) (lowm (j + 1)) 0 0 x d (j + 1) = 0 := fa_none d (j + 1) (fun k k1 k2 _ => by show (if k = j then 1 else 0) = 0; rw [if_neg (by omega)])
        rw [z]
        exact ⟨fun h => absurd rfl h, fun h => absurd h.1 q⟩
    · by_cases q : mt7 (ρ j) 0 x = true
      · rw [if_pos q, if_neg e]
        exact ⟨fun h => absurd rfl h, fun h => by have := h.2 j (Nat.le_refl _) (by omega); rw [q] at this; exact absurd this (by decide)⟩
      · rw [if_neg q, ih (j + 1) (by omega) (by omega)]
        refine ⟨fun h => ⟨h.1, fun k k1 k2 => ?_⟩, fun h => ⟨h.1, fun k k1 k2 => h.2 k (by omega) k2⟩⟩
        by_cases ek : k = j
        · rw [ek]; exact Bool.eq_false_iff.mpr q
        · exact h.2 k (by omega) k2
theorem CD_Dm {ρ2 : Nat → AR} {α2 : Nat → Nat} {i : Nat} (hi : i < 16) : CD L.r ρ2 (fun k => if k = i then 1 else 0) α2 0 (lowm (i + 1)) 0 0 0 = Dm (some i) L L 0 (lowm i) 0 := by
  funext x
  refine propext ?_
  show acf L.r _ (lowm (i + 1)) 0 0 x ≠ acf ρ2 α2 0 0 0 x ↔ mt7 (L.r i) 0 x = true ∧ ∀ j, j < 16 → Nat.testBit (lowm i) j = true → mt7 (L.r j) 0 x = false
  rw [act_0 (a := 0) (fun j _ => Nat.zero_testBit j)]
  unfold acf
  rw [fa_reach x 16 0 (Nat.zero_le _) (by omega)]
  refine and_congr_right fun _ => ⟨fun h j j1 j2 => ?_, fun h j _ j2 => h j (by omega) (by rw [lowm_t]; exact decide_eq_true j2)⟩
  rw [lowm_t] at j2
  exact h j (Nat.zero_le _) (of_decide_eq_true j2)
theorem k_reach (hF : 16400 ≤ F) (hs : Sh S) (hr : Ba r) (w : WL L) (c : CL S r L) (se : SeU S u) (hu : u < 90000) {i : Nat} (hi : i < L.n) : ∃ z T, f_X7_reaches F S 257 r (nI i) = some (bI z, T) ∧ FT S T ∧ SeU T (u + 1) ∧ (z = true → ∃ y, Lsf 0 (Dm (some i) L L 0 (lowm i) 0) y ∧ ∀ k, k < 7 → xJ T 258 k = lN (y k)) ∧ (z = false → NDf 0 (Dm (some i) L L 0 (lowm i) 0)) := by
  have b1 := w.1
  obtain ⟨T1, ms, vs, tw, p1, p2, p3⟩ := k_prep (F := F) (n1 := i + 1) (n2 := 0) hF hr hr w w (by omega) (by omega) hs c c
  have h1 := FP_Sh p2 hs
  have h2 := Sh_wI h1 277 0 (nI (lowm i))
  have h3 := Sh_wI h2 277 1 (nI (2 ^ i))
  have h4 := Sh_wI h3 277 2 0
  have f4 : FP T1 (wI (wI (wI T1 277 0 (nI (lowm i))) 277 1 (nI (2 ^ i))) 277 2 0) := Fr_rI (Fr_rI (Fr_rI Fr_refl (by decide) _) (by decide) _) (by decide) _
  have e0 : xI (wI (wI (wI T1 277 0 (nI (lowm i))) 277 1 (nI (2 ^ i))) 277 2 0) 277 0 = nI (lowm i) := by
    rw [show (2 : Int32) = nI 2 from rfl, ri_eq _ _ (by omega), if_neg (by decide), show (1 : Int32) = nI 1 from rfl, ri_eq _ _ (by omega), if_neg (by decide), show (0 : Int32) = nI 0 from rfl, ri_eq _ _ (by omega), if_pos rfl]
  have e1 : xI (wI (wI (wI T1 277 0 (nI (lowm i))) 277 1 (nI (2 ^ i))) 277 2 0) 277 1 = nI (2 ^ i) := by
    rw [show (2 : Int32) = nI 2 from rfl, ri_eq _ _ (by omega), if_neg (by decide), show (1 : Int32) = nI 1 from rfl, ri_eq _ _ (by omega), if_pos rfl]
  have e2 : xI (wI (wI (wI T1 277 0 (nI (lowm i))) 277 1 (nI (2 ^ i))) 277 2 0) 277 2 = nI 0 := by
    rw [show (2 : Int32) = nI 2 from rfl, ri_eq _ _ (by omega), if_pos rfl]; rfl
  have e3 : ∀ b, b ≠ 277 → xI (wI (wI (wI T1 277 0 (nI (lowm i))) 277 1 (nI (2 ^ i))) 277 2 0) b = xI T1 b := fun b hb => by
    rw [ri_ne _ _ _ _ hb, ri_ne _ _ _ _ hb, ri_ne _ _ _ _ hb]
  have e4 : xJ (wI (wI (wI T1 277 0 (nI (lowm i))) 277 1 (nI (2 ^ i))) 277 2 0) = xJ T1 := rfl
  have e5 : gI (wI (wI (wI T1 277 0 (nI (lowm i))) 277 1 (nI (2 ^ i))) 277 2 0) = gI T1 := rfl
  have pre : ∀ X, f_X7_differ F (wI (wI (wI T1 277 0 (nI (lowm i))) 277 1 (nI (2 ^ i))) 277 2 0) 257 (nI (lowm (i + 1) + 65536 * 0)) (nI (0 + 65536 * 0)) = some X → zb X.1 = true → f_X7_reaches F S 257 r (nI i) = some X := by
    intro X hX hz
    have p1' : f_X7_prepare F S 257 r (nI (i + 1)) r 0 = some ((), T1) := p1
    have k1 : f_X7_side F (wI (wI (wI T1 277 0 (nI (lowm i))) 277 1 (nI (2 ^ i))) 277 2 0) (nI (lowm (i + 1))) 0 = some (nI (lowm (i + 1) + 65536 * 0), (wI (wI (wI T1 277 0 (nI (lowm i))) 277 1 (nI (2 ^ i))) 277 2 0)) := k_sideN (p := 0) (lowm_lt (by omega)) (by omega)
    have k2 : f_X7_side F (wI (wI (wI T1 277 0 (nI (lowm i))) 277 1 (nI (2 ^ i))) 277 2 0) 0 0 = some (nI (0 + 65536 * 0), (wI (wI (wI T1 277 0 (nI (lowm i))) 277 1 (nI (2 ^ i))) 277 2 0)) := k_sideN (a := 0) (p := 0) (by omega) (by omega)
    unfold f_X7_reaches
    rw [z_i257 hs, qk_true, nI_1, p1', qc_some', z_i257 h1, qk_true, z_p505_257 h1, qP_some', k_below (by omega), qc_some', z_i277 h1, qk_true, z_l277 h1, show inb 0 3 = true from rfl, qk_true, qv_eq, z_i257 h2, qk_true, z_p505_257 h2, qP_some', z_i277 h2, qk_true, z_l277 h2, show inb 1 3 = true from rfl, qk_true, shl_1 i (by omega), qv_eq, z_p505_257 h3, qP_some', z_i277 h3, qk_true, z_l277 h3, show inb 2 3 = true from rfl, qk_true, qv_eq, k_below (by omega), qc_some', k1, qc_some', k2, qc_some', z_i257 h4, qk_true, hX, qc_some', hz, qk_true]
  have pr : PR (wI (wI (wI T1 277 0 (nI (lowm i))) 277 1 (nI (2 ^ i))) 277 2 0) L.r L.r (fun k => if k = i then 1 else 0) (αr L) (i + 1) 0 ms vs tw := by
    generalize wI (wI (wI T1 277 0 (nI (lowm i))) 277 1 (nI (2 ^ i))) 277 2 0 = S4 at e0 e1 e2 e3 e4 e5
    obtain ⟨a1, a2, a3, a4, ⟨a5, a6, a7⟩, a8, a9, a10, a11⟩ := p3
    have two : 2 ^ i < 65536 := by
      have := Nat.pow_lt_pow_right (a := 2) (by omega) (show i < 16 by omega)
      omega
    refine ⟨fun k hk => ?_, fun k hk => ?_, ?_, fun a ha => ?_, ⟨a5, by rw [e5]; exact a6, fun j hj => absurd (a7 j hj).2.1 (by omega)⟩, a8, a9, fun j _ => ?_, fun j hj => by omega⟩
    · rw [e3 275 (by omega), e3 (268 + k) (by omega), e4]; exact a1 k hk
    · rw [e3 276 (by omega)]; exact a2 k hk
    · rw [e3 276 (by omega)]; exact a3
    · show ∃ O, O < 4294967296 ∧ xI S4 277 a = nI O ∧ ∀ j, j < 16 → (j < i + 1 → Nat.testBit O j = decide ((if j = i then 1 else 0) = a)) ∧ (j < 0 → Nat.testBit O (16 + j) = decide (αr L j = a))
      have : a = 0 ∨ a = 1 ∨ a = 2 := by omega
      rcases this with rfl | rfl | rfl
      · refine ⟨lowm i, by have := lowm_lt (show i ≤ 16 by omega); omega, e0, fun j hj => ⟨fun hj1 => ?_, fun q => by omega⟩⟩
        rw [lowm_t]
        by_cases q : j = i
        · rw [decide_eq_false (by omega), decide_eq_false (by rw [if_pos q]; decide)]
        · rw [decide_eq_true (by omega), decide_eq_true (by rw [if_neg q])]
      · refine ⟨2 ^ i, by omega, e1, fun j hj => ⟨fun hj1 => ?_, fun q => by omega⟩⟩
        rw [Nat.testBit_two_pow]
        by_cases q : j = i
        · rw [decide_eq_true q.symm, decide_eq_true (by rw [if_pos q])]
        · rw [decide_eq_false (fun e => q e.symm), decide_eq_false (by rw [if_neg q]; decide)]
      · refine ⟨0, by omega, e2, fun j hj => ⟨fun hj1 => ?_, fun q => by omega⟩⟩
        rw [Nat.zero_testBit]
        by_cases q : j = i
        · rw [decide_eq_false (by rw [if_pos q]; decide)]
        · rw [decide_eq_false (by rw [if_neg q]; decide)]
    · show (if j = i then 1 else 0) < 3
      by_cases q : j = i
      · rw [if_pos q]; decide
      · rw [if_neg q]; decide
  generalize wI (wI (wI T1 277 0 (nI (lowm i))) 277 1 (nI (2 ^ i))) 277 2 0 = S4 at h4 f4 e5 pre pr
  have f5 := Fr_trans p2 f4
  obtain ⟨z, T, q1, q2, q3, q4, q5, q6⟩ := k_differ (F := F) (a := lowm (i + 1)) (b := 0) (p := 0) (q := 0) hF h4 pr (SeU_P se f5) hu (lowm_lt (by omega)) (by omega) (fun j e => by rw [lowm_t] at e; exact of_decide_eq_true e) (fun j e => by rw [Nat.zero_testBit] at e; exact absurd e (by decide)) (by omega) (by omega)
  rw [CD_Dm (by omega)] at q5 q6
  exact ⟨z, T, pre (bI z, T) q1 (by cases z <;> rfl), Fr_trans (FT_P f5) (Fr_mono q2 (by simp) (by simp) (by simp) (by simp) (by simp) (by simp)), q3, q5, q6⟩
end REA
/-- what a call of search may change -/
def FA (S T : gk_S) : Prop := Frm [506, 811, 900, 925, 926, 927, 930] [508] [] [268, 269, 270, 271, 272, 273, 274, 275, 276, 277, 368] [258, 260, 261, 262, 263, 264, 265, 266, 278, 351, 365, 366, 367, 372] [] S T
def KP (P : (Nat → Nat) → Prop) (S T : gk_S) (f a b : Nat) (z : Bool) : Prop := (z = true → gI T f a = 1 ∧ ∃ y, Lsf 0 P y ∧ ∀ k, k < 7 → xJ T b k = lN (y k)) ∧ (z = false → NDf 0 P ∧ gI T f a = gI S f a ∧ xJ T b = xJ S b)
section FIN
variable {S S1 T : gk_S} {t u : Nat} {P : (Nat → Nat) → Prop} {z z' : Bool}
theorem Inv_up {t' : Nat} (h : Inv S t) (e : t ≤ t') : Inv S t' := by
  obtain ⟨h0, h1, h2, h3, h4, h5, h6, h7, v, h8, h9⟩ := h
  exact ⟨h0, h1, h2, h3, h4, h5, h6, h7, v, by omega, h9⟩
theorem KP_same (h1 : KP P S S1 811 0 351 z) (h2 : KP P S T 925 352 365 z') : z = z' := by
  cases z <;> cases z'
  · rfl
  · obtain ⟨-, y, y1, -⟩ := h2.1 rfl
    exact absurd y1.2.1 ((h1.2 rfl).1 y y1.1)
  · obtain ⟨-, y, y1, -⟩ := h1.1 rfl
    exact absurd y1.2.1 ((h2.2 rfl).1 y y1.1)
  · rfl
theorem FA_Inv (hI : Inv S t) (f : FA S T) (fd : gI T 811 0 = gI T 925 352 ∧ (gI T 811 0 = 0 ∨ gI T 811 0 = 1) ∧ ∀ i, i < 7 → xJ T 351 i = xJ T 365 i) (se : SeU T u) (hu : u ≤ t) : Inv T t := by
  obtain ⟨h0, h1, h2, h3, h4, h5, h6, h7, h8⟩ := hI
  obtain ⟨R, L, c1, c2⟩ := Ls_el h5
  exact ⟨Fr_Sh f h0 (by simp) (by simp), Fr_Tp f h1 (by simp), Fr_Ot f h2 (by simp), ⟨by rw [f.2.2.2.1 812 0 (by simp), f.2.2.2.1 918 352 (by simp)]; exact h3.1, fd⟩, Fr_Wd f h4 (by simp), Ls_in (Fr_LsC f c1 (by simp) (by simp) (by simp) (by simp) (by simp)) (Fr_LsT f c2 (by simp) (by simp)), Fr_Tb f h6 (by simp) (by simp) (by simp) (by simp), Fr_Lp f h7 (by simp), u, hu, se.1, se.2⟩
theorem KP_Fnd (hI : Inv S t) (h1 : KP P S T 811 0 351 z) (h2 : KP P S T 925 352 365 z) : gI T 811 0 = gI T 925 352 ∧ (gI T 811 0 = 0 ∨ gI T 811 0 = 1) ∧ ∀ i, i < 7 → xJ T 351 i = xJ T 365 i := by
  obtain ⟨-, -, -, ⟨g1, g2, g3, g4⟩, -⟩ := hI
  cases z
  · obtain ⟨-, a1, a2⟩ := h1.2 rfl
    obtain ⟨-, b1, b2⟩ := h2.2 rfl
    rw [a1, a2, b1, b2]
    exact ⟨g2, g3, g4⟩
  · obtain ⟨a1, y, y1, a2⟩ := h1.1 rfl
    obtain ⟨b1, y', y2, b2⟩ := h2.1 rfl
    rw [a1, b1]
    exact ⟨rfl, Or.inr rfl, fun k hk => by rw [a2 k hk, b2 k hk, LS_uniq y1 y2 (fun _ _ => Iff.rfl) k (Nat.zero_le _) hk]⟩
end FIN
