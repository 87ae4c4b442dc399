/-! the model goes on, looks -/
section LOK
variable {S T : gk_S} {F l1 l2 : Nat} {L1 L2 : AL} {mu : Option Nat}
theorem GO_c {f a b a' b' : Nat} {r : Option (Int32 × gk_S)} (h : GO mu L1 L2 f a b S r) (e : ∀ x, V7 f x → (Dm mu L1 L2 f a b x ↔ Dm mu L1 L2 f a' b' x)) : GO mu L1 L2 f a' b' S r := by
  obtain ⟨q, T, h1, h2, h3, h4, h5, h6⟩ := h
  refine ⟨q, T, h1, h2, h3, h4, fun p => ?_, fun p => ND_c (h6 p) e⟩
  obtain ⟨y, y1, y2⟩ := h5 p
  exact ⟨y, LS_c y1 e, y2⟩
theorem v_g44 (hF : 16400 ≤ F) {f a b : Nat} (s : SM S l1 l2 L1 L2 mu) (m : MM S mu L1 L2) (hf : f ≤ 6) (ha : inM L1 a) (hb : inM L2 b) (hb0 : mu ≠ none → b = 0) (g : gk_S → Nat → Int32 → Int32 → Int32 → Option (Int32 × gk_S)) (hg : f < 6 → ∀ S a' b', SM S l1 l2 L1 L2 mu → MM S mu L1 L2 → inM L1 a' → inM L2 b' → (mu ≠ none → b' = 0) → GO mu L1 L2 (f + 1) a' b' S (g S 352 (nI (f + 1)) (nI a') (nI b'))) : GO mu L1 L2 f a b S (f_X12_goesOn_44 F g 352 (nI f) (nI a) (nI b) S) := by
  have s' := s
  obtain ⟨hs, s1, s2, s3, s4, s5, s6, s7, s8, s9, s10⟩ := s'
  have z6 : nI f = 6 ↔ f = 6 := nI_eq (b := 6) (by omega) (by omega)
  unfold f_X12_goesOn_44
  by_cases c6 : f = 6
  · subst c6
    rw [if_pos (z6.mpr rfl), z_i352 hs, qk_true]
    rcases v_sto2 (F := F) hF s ha hb hb0 4 0 F (by omega) (by omega) (fun u hu => by omega) with ⟨u, u1, u2, u3, u4⟩ | ⟨u2, u3⟩
    · have u2' : f_X12_stateOf F S 352 (nI a) (nI b) = some (nI u, S) := u2
      rw [u2', qc_some', z_i352 hs, qk_true, z_p924_352 hs, qP_some', z_i366 hs, qk_true, z_l366 hs, show inb 6 7 = true from rfl, qk_true, qv_eq, if_neg (nI_pos (by omega)), nI_l (by omega)]
      refine ⟨true, _, rfl, FV_w Fr_refl _ _, MM_w m _ _, fun k hk => ?_, fun _ => ⟨fun _ => u, ⟨fun k k1 k2 => ?_, u3, fun x vx dx lt => ?_⟩, fun k k1 k2 => ?_⟩, fun q => absurd q (by decide)⟩
      · exact (rw_eq S 366 (i := 6) (by omega) _ k).trans (if_neg (by omega))
      · have : k = 6 := by omega
        subst this
        show u ≤ 3
        omega
      · obtain ⟨k, k1, k2, k3, k4⟩ := lt
        have : k = 6 := by omega
        subst this
        exact u4 (x 6) k4 ((Dm_6 rfl).mp dx)
      · have : k = 6 := by omega
        subst this
        exact (rw_eq S 366 (i := 6) (by omega) _ 6).trans (if_pos rfl)
    · have u2' : f_X12_stateOf F S 352 (nI a) (nI b) = some (-1, S) := u2
      rw [u2', qc_some', z_i352 hs, qk_true, z_p924_352 hs, qP_some', z_i366 hs, qk_true, z_l366 hs, show inb 6 7 = true from rfl, qk_true, qv_eq, if_pos (by decide)]
      refine ⟨false, _, rfl, FV_w Fr_refl _ _, MM_w m _ _, fun k hk => ?_, fun q => absurd q (by decide), fun _ x vx dx => ?_⟩
      · exact (rw_eq S 366 (i := 6) (by omega) _ k).trans (if_neg (by omega))
      · have x6 : x 6 ≤ 3 := vx 6 (by omega) (by omega)
        exact u3 (x 6) (by omega) ((Dm_6 rfl).mp dx)
  · have hf6 : f < 6 := by omega
    have qb := qr_b s hf6
    obtain ⟨q, q1, q2⟩ := v_hope (F := F) hF s ha hb hf
    rw [if_neg (fun e => c6 (z6.mp e)), z_i352 hs, qk_true, q1, qc_some']
    cases q
    · obtain ⟨z0, z1, z2⟩ := v_place (T := S) (F := F) (lN (kyM f a b))
      rw [if_pos (show bI false = 0 from rfl), qv_eq, qv_eq, key_eq hf6 ha.1 hb.1, z2, qc_some', z_i352 hs, qk_true, z_p929_352 hs, qP_some', z_i368 hs, qk_true, z_l368 hs, inb_n z1 (by omega), qk_true, qv_eq]
      have a8 : aI S 368 (nI z0) = xI S 368 z0 := by unfold aI; rw [nI_clamp (by omega)]
      have a7 : aJ S 367 (nI z0) = xJ S 367 z0 := by unfold aJ; rw [nI_clamp (by omega)]
      have loop : GO mu L1 L2 f a b S (f_X12_goesOn_149 F g 352 (nI f) (nI a) (nI b) (lN (kyM f a b)) (nI z0) S) := by
        have b1 := bc_le L1 a f ((qr L1 mu).lo f) 16
        have b2 := bc_le L2 b f ((qr L1 mu).lo f) 16
        have e1 : lN ((qr L1 mu).hi f) + 1 = lN ((qr L1 mu).hi f + 1) := by rw [show (1 : Int64) = lN 1 from rfl, lN_add]
        unfold f_X12_goesOn_149
        rw [z_i352 hs, qk_true, v_high s hf6, qc_some', z_i352 hs, qk_true, v_low s hf6, qc_some', e1]
        refine v_g165 hF hf6 ha hb hb0 z1 g (hg hf6) 66 _ F S s m (by omega) (Or.inr (by omega)) (by omega) (Nat.le_refl _) (by omega) (fun x vx lx dx => ?_)
        cases hm : mu with
        | none =>
          rw [hm] at lx
          have : (qr L1 none).lo f = 0 := rfl
          omega
        | some i =>
          refine Dm_out (x := x) (by omega) hm ?_ dx
          rw [inb_b s hf6 hm, decide_eq_false (by omega)]
      rw [a8]
      by_cases c0 : xI S 368 z0 = 0
      · rw [if_pos c0]; exact loop
      · rw [if_neg c0, z_p928_352 hs, qP_some', z_i367 hs, qk_true, z_l367 hs, inb_n z1 (by omega), qk_true, qv_eq, a7]
        by_cases ck : xJ S 367 z0 = lN (kyM f a b)
        · rw [if_pos ck]
          exact ⟨false, S, rfl, Fr_refl, m, fun _ _ => rfl, fun q => absurd q (by decide), fun _ => m z0 f a b z1 hf6 ha.1 hb.1 c0 ck⟩
        · rw [if_neg ck]; exact loop
    · rw [if_neg (show ¬ bI true = 0 by decide)]
      exact ⟨false, S, rfl, Fr_refl, m, fun _ _ => rfl, fun q => absurd q (by decide), fun _ => q2 rfl⟩
theorem v_goes (hF : 16400 ≤ F) : ∀ d f, f + d = 6 → ∀ S a b, SM S l1 l2 L1 L2 mu → MM S mu L1 L2 → inM L1 a → inM L2 b → (mu ≠ none → b = 0) → GO mu L1 L2 f a b S (f_X12_goesOn_r F (d + 2) S 352 (nI f) (nI a) (nI b)) := by
  intro d
  have lev : ∀ f, f ≤ 6 → ∀ g : gk_S → Nat → Int32 → Int32 → Int32 → Option (Int32 × gk_S), (f < 6 → ∀ S a' b', SM S l1 l2 L1 L2 mu → MM S mu L1 L2 → inM L1 a' → inM L2 b' → (mu ≠ none → b' = 0) → GO mu L1 L2 (f + 1) a' b' S (g S 352 (nI (f + 1)) (nI a') (nI b'))) → ∀ S a b, SM S l1 l2 L1 L2 mu → MM S mu L1 L2 → inM L1 a → inM L2 b → (mu ≠ none → b = 0) → GO mu L1 L2 f a b S (f_X12_goesOn F g S 352 (nI f) (nI a) (nI b)) := by
    intro f hf g hg S a b s m ha hb hb0
    have s' := s
    obtain ⟨hs, s1, s2, s3, s4, s5, s6, s7, s8, s9, s10⟩ := s'
    have n16 := s9.1
    unfold f_X12_goesOn f_X12_goesOn_21
    rw [z_i352 hs, qk_true, qv_eq]
    cases hm : mu with
    | none =>
      obtain ⟨a1, p1, p2, p3⟩ := v_cut (F := F) hF s s7 s1 s9 L1.p (αr L1) ha hf
      obtain ⟨b1, q1, q2, q3⟩ := v_cut (F := F) hF s s8 s2 s10 L2.p (αr L2) hb hf
      rw [s5 hm, if_neg (by decide), qv_eq, s3, p1, qc_some', z_i352 hs, qk_true, qv_eq, s5 hm, if_neg (by decide), qv_eq, s4, q1, qc_some']
      have k := v_g44 (F := F) hF s m hf p2 q2 (fun q => absurd hm q) g hg
      rw [hm] at k p3 q3
      refine GO_c k (fun x vx => ?_)
      have mm := V_wR (show f ≤ 7 by omega) vx
      show acf L1.r (αr L1) a1 L1.p f x ≠ acf L2.r (αr L2) b1 L2.p f x ↔ acf L1.r (αr L1) a L1.p f x ≠ acf L2.r (αr L2) b L2.p f x
      rw [p3 x mm, q3 x mm]
    | some i =>
      have e := (s6 i hm).1
      have hi := (s6 i hm).2
      have b0 := hb0 (by rw [hm]; simp)
      subst b0
      rw [e, if_pos (show (0 : Int32) ≤ nI (16 * l1 + i) from nI_le (a := 0) (by omega) (by omega)), qk_true, qv_eq, if_pos (show (0 : Int32) ≤ nI (16 * l1 + i) from nI_le (a := 0) (by omega) (by omega))]
      have k := v_g44 (F := F) hF s m hf ha hb hb0 g hg
      rw [hm] at k
      exact k
  induction d with
  | zero =>
    intro f hf S a b s m ha hb hb0
    exact lev f (by omega) (f_X12_goesOn_r F 1) (fun q => by omega) S a b s m ha hb hb0
  | succ d ih =>
    intro f hf S a b s m ha hb hb0
    exact lev f (by omega) (f_X12_goesOn_r F (d + 2)) (fun _ => ih (f + 1) (by omega)) S a b s m ha hb hb0
theorem v_fv : ∀ d i fu (T : gk_S), Sh T → i + d = 16384 → d < fu → (∀ j, j < i → xI T 368 j = 0) → ∃ T', f_X12_forgetVain_2 F fu 352 (nI i) T = some ((), T') ∧ FV T T' ∧ (∀ j, j < 16384 → xI T' 368 j = 0) ∧ xJ T' = xJ T := by
  intro d
  induction d with
  | zero =>
    intro i fu T h h1 h2 hj
    obtain ⟨fu, rfl⟩ : ∃ q, fu = q + 1 := ⟨fu - 1, by omega⟩
    rw [f_X12_forgetVain_2, if_pos (show (16384 : Int32) ≤ nI i from nI_le (a := 16384) (by omega) (by omega))]
    exact ⟨T, rfl, Fr_refl, fun j j2 => hj j (by omega), rfl⟩
  | succ d ih =>
    intro i fu T h h1 h2 hj
    obtain ⟨fu, rfl⟩ : ∃ q, fu = q + 1 := ⟨fu - 1, by omega⟩
    obtain ⟨T', r1, r2, r3, r4⟩ := ih (i + 1) fu (wI T 368 (nI i) 0) (Sh_wI h _ _ _) (by omega) (by omega) (fun j j1 => by
      rw [ri_eq _ _ (by omega)]
      by_cases c : j = i
      · rw [if_pos c]
      · rw [if_neg c]; exact hj j (by omega))
    rw [f_X12_forgetVain_2, if_neg (show ¬ (16384 : Int32) ≤ nI i from nI_ge (b := 16384) (by omega) (by omega)), z_i352 h, qk_true, z_p929_352 h, qP_some', z_i368 h, qk_true, z_l368 h, inb_n (show i < 16384 by omega) (by omega), qk_true, qv_eq, nI_1]
    exact ⟨T', r1, Fr_trans (Fr_rI Fr_refl (by decide) _) r2, r3, r4⟩
theorem v_forget (hF : 16400 ≤ F) (h : Sh T) : ∃ T', f_X12_forgetVain F T 352 = some ((), T') ∧ FV T T' ∧ (∀ mu L1 L2, MM T' mu L1 L2) ∧ xJ T' = xJ T := by
  obtain ⟨T', r1, r2, r3, r4⟩ := v_fv (F := F) 16384 0 F T h (by omega) (by omega) (fun j hj => by omega)
  exact ⟨T', r1, r2, fun mu L1 L2 k f a b k1 _ _ _ k5 _ => absurd (r3 k k1) k5, r4⟩
end LOK
