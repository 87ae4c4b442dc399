/-! the class prepares: what cuts meet -/
def isw (ρ : AR) (k : Nat) : Bool := if k < 6 then decide (ρ.lo k = 0 ∧ ρ.hi k = tp k) else decide (ρ.s = 15)
def whd (ρ : AR) : Nat → Nat → Bool
  | 0, _ => true
  | d + 1, c => isw ρ c && whd ρ d (c + 1)
def wh (ρ : AR) (c : Nat) : Bool := whd ρ (7 - c) c
theorem wh_s {c : Nat} (h : c < 7) (ρ : AR) : wh ρ c = (isw ρ c && wh ρ (c + 1)) := by
  unfold wh
  rw [show 7 - c = (7 - (c + 1)) + 1 by omega, whd]
theorem wh_hd {ρ : AR} {k v : Nat} (hk : k < 7) (h : isw ρ k = true) (hv : v ≤ tp k) : hd ρ k v = true := by
  unfold isw at h
  unfold hd
  by_cases c : k < 6
  · rw [if_pos c] at h ⊢
    have := of_decide_eq_true h
    exact decide_eq_true (by omega)
  · rw [if_neg c] at h ⊢
    have e : k = 6 := by omega
    rw [e] at hv
    rw [of_decide_eq_true h]
    have h3 : v ≤ 3 := hv
    exact tb15 v (by omega)
theorem wh_mt (ρ : AR) {x : Nat → Nat} : ∀ d c, c + d = 7 → wh ρ c = true → V7 c x → mt7 ρ c x = true := by
  intro d
  induction d with
  | zero => intro c h _ _; rw [show c = 7 by omega]; exact mt_7 _ _
  | succ d ih =>
    intro c h hw vx
    rw [wh_s (by omega), Bool.and_eq_true] at hw
    rw [mt_s (by omega), wh_hd (by omega) hw.1 (vx c (Nat.le_refl _) (by omega)), ih (c + 1) (by omega) hw.2 (fun k k1 k2 => vx k (by omega) k2)]
    rfl
def MTc (T : gk_S) (ms : Nat → Nat) (vs : Nat → Nat → Nat) (rr : Nat → AR) (c : Nat) (D : Nat → Bool) : Prop := ∀ k, k < ms c → ∃ M, M < 4294967296 ∧ xI T (268 + c) k = nI M ∧ ∀ i, i < 32 → Nat.testBit M i = (D i && hd (rr i) c (vs c k))
def Wc (T : gk_S) (rr : Nat → AR) (c : Nat) (D : Nat → Bool) : Prop := ∃ W, W < 4294967296 ∧ xI T 276 c = nI W ∧ ∀ i, i < 32 → Nat.testBit W i = (D i && wh (rr i) c)
def Oa (T : gk_S) (rr : Nat → AR) (a : Nat) (D : Nat → Bool) : Prop := ∃ O, O < 4294967296 ∧ xI T 277 a = nI O ∧ ∀ i, i < 32 → Nat.testBit O i = (D i && decide ((rr i).a = a))
def FM (S T : gk_S) : Prop := Frm [] [] [] [268, 269, 270, 271, 272, 273, 274, 276, 277] [] [] S T
def dn (D : Nat → Bool) (b i : Nat) : Bool := D i || decide (i = b)
theorem or_new {M b : Nat} {D : Nat → Bool} {P : Nat → Bool} (hM : M < 4294967296) (hb : b < 32) (h : ∀ i, i < 32 → Nat.testBit M i = (D i && P i)) (q : Bool) (hq : q = P b) : ∃ M', M' < 4294967296 ∧ (nI M ||| (if q = true then nI (2 ^ b) else 0)) = nI M' ∧ ∀ i, i < 32 → Nat.testBit M' i = (dn D b i && P i) := by
  have hb2 : 2 ^ b < 4294967296 := by
    have := Nat.pow_lt_pow_right (show 1 < 2 by decide) hb
    exact this
  cases q
  · refine ⟨M, hM, ?_, fun i hi => ?_⟩
    · rw [if_neg (by decide), show (0 : Int32) = nI 0 from rfl, nI_or, Nat.or_zero]
    · rw [h i hi]
      unfold dn
      by_cases e : i = b
      · rw [e, ← hq, Bool.and_false, Bool.and_false]
      · rw [decide_eq_false e, Bool.or_false]
  · refine ⟨M ||| 2 ^ b, Nat.or_lt_two_pow (n := 32) hM hb2, ?_, fun i hi => ?_⟩
    · rw [if_pos rfl, nI_or]
    · rw [Nat.testBit_or, h i hi, Nat.testBit_two_pow]
      unfold dn
      by_cases e : i = b
      · rw [e, decide_eq_true rfl, ← hq, Bool.and_true, Bool.or_true]; rfl
      · rw [decide_eq_false (show ¬ b = i from fun h => e h.symm), decide_eq_false e, Bool.or_false, Bool.or_false]
section MET
variable {S T : gk_S} {F r : Nat} {L : AL} {ms : Nat → Nat} {vs : Nat → Nat → Nat} {rr : Nat → AR}
theorem FM_Sh (f : FM S T) (h : Sh S) : Sh T := Fr_Sh f h (by simp) (by simp)
theorem CUs_FM (h : CUs S ms vs) (f : FM S T) : CUs T ms vs := by
  intro c hc
  have := h c hc
  unfold CU
  rw [f.2.2.2.2.2.2.1 275 (by decide), f.2.2.2.2.2.2.2.1 (260 + c) (by simp)]
  exact this
theorem CR_FM {u : Nat} {ρ : AR} (h : CR S u ρ) (f : FM S T) : CR T u ρ := CR_c h ⟨f.2.2.2.1 _ _ (by simp), f.2.2.2.1 _ _ (by simp), f.2.2.2.2.2.2.2.1 _ (by simp), f.2.2.2.2.2.2.2.1 _ (by simp)⟩
theorem mem68 {c : Nat} (hc : c < 7) : 268 + c ∈ [268, 269, 270, 271, 272, 273, 274, 276, 277] := by
  have : c = 0 ∨ c = 1 ∨ c = 2 ∨ c = 3 ∨ c = 4 ∨ c = 5 ∨ c = 6 := by omega
  rcases this with rfl | rfl | rfl | rfl | rfl | rfl | rfl <;> decide
theorem k_cm10 {c : Nat} (hc : c < 7) (K : Nat → Int32 → gk_S → Option (Unit × gk_S)) : ∀ d k fu (T : gk_S), k + d = ms c → d < fu → Sh T → CUs T ms vs → (∀ j, j < k → xI T (268 + c) j = 0) → ∃ T', f_X7_clearMet_10 F K fu 257 (nI c) (nI k) T = K 257 (nI (c + 1)) T' ∧ FM T T' ∧ (∀ a, a ≠ 268 + c → xI T' a = xI T a) ∧ ∀ j, j < ms c → xI T' (268 + c) j = 0 := by
  intro d
  induction d with
  | zero =>
    intro k fu T h1 h2 hs cu hj
    obtain ⟨fu, rfl⟩ : ∃ z, fu = z + 1 := ⟨fu - 1, by omega⟩
    obtain ⟨m1, m2, m3, m4, m5⟩ := cu c hc
    have am : aI T 275 (nI c) = nI (ms c) := by unfold aI; rw [nI_clamp (by omega)]; exact m3
    rw [f_X7_clearMet_10, z_i257 hs, qk_true, z_p503_257 hs, qP_some', z_i275 hs, qk_true, z_l275 hs, inb_n hc (by omega), qk_true, qv_eq, am, if_pos (nI_le (by omega) (by omega)), nI_1]
    exact ⟨T, rfl, Fr_refl, fun _ _ => rfl, fun j hj' => hj j (by omega)⟩
  | succ d ih =>
    intro k fu T h1 h2 hs cu hj
    obtain ⟨fu, rfl⟩ : ∃ z, fu = z + 1 := ⟨fu - 1, by omega⟩
    obtain ⟨m1, m2, m3, m4, m5⟩ := cu c hc
    have am : aI T 275 (nI c) = nI (ms c) := by unfold aI; rw [nI_clamp (by omega)]; exact m3
    obtain ⟨zc1, zc2, zc3, zc4, zc5, zc6⟩ := z_cut hs hc
    have ap2 : aP T 267 (nI c) = some (268 + c) := by unfold aP; rw [nI_clamp (by omega)]; exact zc2
    have f1 : FM T (wI T (268 + c) (nI k) 0) := Fr_rI Fr_refl (mem68 hc) _
    obtain ⟨T', r1, r2, r3, r4⟩ := ih (k + 1) fu (wI T (268 + c) (nI k) 0) (by omega) (by omega) (Sh_wI hs _ _ _) (CUs_FM cu f1) (fun j hj' => by
      rw [ri_eq _ _ (by omega)]
      by_cases e : j = k
      · rw [if_pos e]
      · rw [if_neg e]; exact hj j (by omega))
    rw [f_X7_clearMet_10, z_i257 hs, qk_true, z_p503_257 hs, qP_some', z_i275 hs, qk_true, z_l275 hs, inb_n hc (by omega), qk_true, qv_eq, am, if_neg (nI_ge (by omega) (by omega)), if_neg (show ¬ (65 : Int32) ≤ nI k from nI_ge (b := 65) (by omega) (by omega)), z_p502_257 hs, qP_some', z_i267 hs, qk_true, z_l267 hs, inb_n hc (by omega), qk_true, ap2, qP_some', zc5, qk_true, zc6, inb_n (show k < 65 by omega) (by omega), qk_true, qv_eq, nI_1]
    exact ⟨T', r1, Fr_trans f1 r2, fun a ha => (r3 a ha).trans (ri_ne _ _ _ _ ha), r4⟩
theorem k_clear (hF : 16400 ≤ F) : ∀ d c fu (T : gk_S), c + d = 7 → d < fu → Sh T → CUs T ms vs → (∀ c', c' < c → ∀ j, j < ms c' → xI T (268 + c') j = 0) → ∃ T', f_X7_clearMet_2 F fu 257 (nI c) T = some ((), T') ∧ FM T T' ∧ (∀ a, 275 ≤ a → xI T' a = xI T a) ∧ ∀ c', c' < 7 → ∀ j, j < ms c' → xI T' (268 + c') j = 0 := by
  intro d
  induction d with
  | zero =>
    intro c fu T h1 h2 hs cu hj
    obtain ⟨fu, rfl⟩ : ∃ z, fu = z + 1 := ⟨fu - 1, by omega⟩
    rw [f_X7_clearMet_2, if_pos (show (7 : Int32) ≤ nI c from nI_le (a := 7) (by omega) (by omega))]
    exact ⟨T, rfl, Fr_refl, fun _ _ => rfl, fun c' hc' => hj c' (by omega)⟩
  | succ d ih =>
    intro c fu T h1 h2 hs cu hj
    obtain ⟨fu, rfl⟩ : ∃ z, fu = z + 1 := ⟨fu - 1, by omega⟩
    have hc : c < 7 := by omega
    have m65 := (cu c hc).2.1
    obtain ⟨T1, a1, a2, a3, a4⟩ := k_cm10 (F := F) hc (f_X7_clearMet_2 F fu) (ms c) 0 F T (by omega) (by omega) hs cu (fun j hj' => by omega)
    obtain ⟨T2, b1, b2, b3, b4⟩ := ih (c + 1) fu T1 (by omega) (by omega) (FM_Sh a2 hs) (CUs_FM cu a2) (fun c' hc' j hj' => by
      by_cases e : c' = c
      · rw [e] at hj' ⊢; exact a4 j hj'
      · rw [a3 _ (by omega)]; exact hj c' (by omega) j hj')
    have a1' : f_X7_clearMet_10 F (f_X7_clearMet_2 F fu) F 257 (nI c) 0 T = f_X7_clearMet_2 F fu 257 (nI (c + 1)) T1 := a1
    rw [f_X7_clearMet_2, if_neg (show ¬ (7 : Int32) ≤ nI c from nI_ge (b := 7) hc (by omega)), a1', b1]
    exact ⟨T2, rfl, Fr_trans a2 b2, fun a ha => (b3 a ha).trans (a3 a (by omega)), b4⟩
theorem k_mb3 {c j b : Nat} (hr : Ba r) (hj : j < 16) (hc : c < 7) (hb : b < 32) {D : Nat → Bool} (wr : WR (rr b)) : ∀ d k fu (T : gk_S), k + d = ms c → d < fu → Sh T → CUs T ms vs → CR T (ru r j) (rr b) → (∀ k', k' < ms c → ∃ M, M < 4294967296 ∧ xI T (268 + c) k' = nI M ∧ ∀ i, i < 32 → Nat.testBit M i = ((if k' < k then dn D b i else D i) && hd (rr i) c (vs c k'))) → ∃ T', f_X7_addMetBy_3 F fu 257 (ru r j) (nI c) (nI (2 ^ b)) (nI k) T = some ((), T') ∧ FM T T' ∧ (∀ a, a ≠ 268 + c → xI T' a = xI T a) ∧ MTc T' ms vs rr c (dn D b) := by
  intro d
  induction d with
  | zero =>
    intro k fu T h1 h2 hs cu cr hm
    obtain ⟨fu, rfl⟩ : ∃ z, fu = z + 1 := ⟨fu - 1, by omega⟩
    obtain ⟨m1, m2, m3, m4, m5⟩ := cu c hc
    have am : aI T 275 (nI c) = nI (ms c) := by unfold aI; rw [nI_clamp (by omega)]; exact m3
    rw [f_X7_addMetBy_3, z_i257 hs, qk_true, z_p503_257 hs, qP_some', z_i275 hs, qk_true, z_l275 hs, inb_n hc (by omega), qk_true, qv_eq, am, if_pos (nI_le (by omega) (by omega))]
    refine ⟨T, rfl, Fr_refl, fun _ _ => rfl, fun k' hk' => ?_⟩
    obtain ⟨M, q1, q2, q3⟩ := hm k' hk'
    exact ⟨M, q1, q2, fun i hi => by rw [q3 i hi, if_pos (by omega)]⟩
  | succ d ih =>
    intro k fu T h1 h2 hs cu cr hm
    obtain ⟨fu, rfl⟩ : ∃ z, fu = z + 1 := ⟨fu - 1, by omega⟩
    obtain ⟨m1, m2, m3, m4, m5⟩ := cu c hc
    have am : aI T 275 (nI c) = nI (ms c) := by unfold aI; rw [nI_clamp (by omega)]; exact m3
    obtain ⟨zc1, zc2, zc3, zc4, zc5, zc6⟩ := z_cut hs hc
    have ap1 : aP T 259 (nI c) = some (260 + c) := by unfold aP; rw [nI_clamp (by omega)]; exact zc1
    have ap2 : aP T 267 (nI c) = some (268 + c) := by unfold aP; rw [nI_clamp (by omega)]; exact zc2
    obtain ⟨v1, v2, v3⟩ := m5 k (by omega)
    have tl := tp_lt c
    have aC : aJ T (260 + c) (nI k) = lN (vs c k) := by unfold aJ; rw [nI_clamp (by omega)]; exact v1
    obtain ⟨M, q1, q2, q3⟩ := hm k (by omega)
    have aM : aI T (268 + c) (nI k) = nI M := by unfold aI; rw [nI_clamp (by omega)]; exact q2
    -- a cut that has been held against the rule
    have s77 : ∀ q, q = hd (rr b) c (vs c k) → ∃ T', f_X7_addMetBy_77 F (f_X7_addMetBy_3 F fu) 257 (ru r j) (nI c) (nI (2 ^ b)) (nI k) (bI q) T = some ((), T') ∧ FM T T' ∧ (∀ a, a ≠ 268 + c → xI T' a = xI T a) ∧ MTc T' ms vs rr c (dn D b) := by
      intro q hq
      obtain ⟨M', o1, o2, o3⟩ := or_new (P := fun i => hd (rr i) c (vs c k)) (D := D) q1 hb (fun i hi => by rw [q3 i hi, if_neg (Nat.lt_irrefl _)]) q hq
      have f1 : FM T (wI T (268 + c) (nI k) (nI M')) := Fr_rI Fr_refl (mem68 hc) _
      obtain ⟨T', r1, r2, r3, r4⟩ := ih (k + 1) fu (wI T (268 + c) (nI k) (nI M')) (by omega) (by omega) (Sh_wI hs _ _ _) (CUs_FM cu f1) (CR_FM cr f1) (fun k' hk' => by
        rw [ri_eq _ _ (by omega)]
        by_cases e : k' = k
        · rw [if_pos e]
          refine ⟨M', o1, rfl, fun i hi => ?_⟩
          rw [o3 i hi, if_pos (by omega), e]
        · rw [if_neg e]
          obtain ⟨M2, w1, w2, w3⟩ := hm k' hk'
          refine ⟨M2, w1, w2, fun i hi => ?_⟩
          rw [w3 i hi]
          by_cases e2 : k' < k
          · rw [if_pos e2, if_pos (by omega)]
          · rw [if_neg e2, if_neg (by omega)])
      unfold f_X7_addMetBy_77
      rw [z_i257 hs, qk_true, z_p502_257 hs, qP_some', z_i267 hs, qk_true, z_l267 hs, inb_n hc (by omega), qk_true, ap2, qP_some', zc5, qk_true, zc6, inb_n (show k < 65 by omega) (by omega), qk_true, qv_eq, aM, nI_1]
      cases q
      · rw [if_neg (by decide)] at o2
        rw [if_pos (show bI false = 0 from rfl), qk_true, o2, qv_eq]
        exact ⟨T', r1, Fr_trans f1 r2, fun a ha => (r3 a ha).trans (ri_ne _ _ _ _ ha), r4⟩
      · rw [if_pos rfl] at o2
        rw [if_neg (show ¬ bI true = 0 by decide), qk_true, o2, qv_eq]
        exact ⟨T', r1, Fr_trans f1 r2, fun a ha => (r3 a ha).trans (ri_ne _ _ _ _ ha), r4⟩
    have z6 : nI c = 6 ↔ c = 6 := nI_eq (b := 6) (by omega) (by omega)
    rw [f_X7_addMetBy_3, z_i257 hs, qk_true, z_p503_257 hs, qP_some', z_i275 hs, qk_true, z_l275 hs, inb_n hc (by omega), qk_true, qv_eq, am, if_neg (nI_ge (by omega) (by omega)), if_neg (show ¬ (65 : Int32) ≤ nI k from nI_ge (b := 65) (by omega) (by omega)), z_p501_257 hs, qP_some', z_i259 hs, qk_true, z_l259 hs, inb_n hc (by omega), qk_true, ap1, qP_some', zc3, qk_true, zc4, inb_n (show k < 65 by omega) (by omega), qk_true, qv_eq, aC]
    by_cases c6 : c = 6
    · have v4 : vs c k < 4 := by
        rw [c6] at v2 ⊢
        have : vs 6 k ≤ 3 := v2
        omega
      rw [if_pos (z6.mpr c6), z_u hs hr hj, qk_true, lN_i, k_hasSt hs hr hj cr wr v4, qc_some']
      refine s77 _ ?_
      unfold hd
      rw [if_neg (by omega)]
    · have hc6 : c < 6 := by omega
      have ul := z_ul hs hr hj
      have e1 : aJ T (ru r j + 1) (nI c) = lN ((rr b).lo c) := by unfold aJ; rw [nI_clamp (by omega)]; exact (cr.2.2 c hc6).1
      have e2 : aJ T (ru r j + 2) (nI c) = lN ((rr b).hi c) := by unfold aJ; rw [nI_clamp (by omega)]; exact (cr.2.2 c hc6).2
      have wb := WR_lt wr hc6
      have y1 : lN (vs c k) < lN ((rr b).lo c) ↔ vs c k < (rr b).lo c := l_lt (by omega) (by omega)
      have y2 : lN ((rr b).hi c) < lN (vs c k) ↔ (rr b).hi c < vs c k := l_lt (by omega) (by omega)
      have hdq : hd (rr b) c (vs c k) = decide ((rr b).lo c ≤ vs c k ∧ vs c k ≤ (rr b).hi c) := by unfold hd; rw [if_pos hc6]
      rw [if_neg (fun q => c6 (z6.mp q)), z_u hs hr hj, qk_true, z_up hs hr hj, qP_some', ul.1, qk_true, ul.2.1, inb_n hc6 (by omega), qk_true, qv_eq, e1]
      by_cases g1 : vs c k < (rr b).lo c
      · rw [if_pos (y1.mpr g1)]
        exact s77 false (by rw [hdq, decide_eq_false (by omega)])
      · rw [if_neg (fun q => g1 (y1.mp q)), z_uq hs hr hj, qP_some', ul.2.2.1, qk_true, ul.2.2.2, inb_n hc6 (by omega), qk_true, qv_eq, e2]
        by_cases g2 : (rr b).hi c < vs c k
        · rw [if_pos (y2.mpr g2)]
          exact s77 false (by rw [hdq, decide_eq_false (by omega)])
        · rw [if_neg (fun q => g2 (y2.mp q))]
          exact s77 true (by rw [hdq, decide_eq_true (by omega)])
end MET
