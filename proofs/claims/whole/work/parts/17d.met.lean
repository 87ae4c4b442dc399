/-! the class prepares: rules one by one -/
section MEU
variable {S T : gk_S} {F r : Nat} {L : AL} {ms : Nat → Nat} {vs : Nat → Nat → Nat} {rr : Nat → AR}
theorem MTc_x {c : Nat} {D : Nat → Bool} (h : MTc S ms vs rr c D) (e : xI T (268 + c) = xI S (268 + c)) : MTc T ms vs rr c D := by
  unfold MTc
  rw [e]
  exact h
theorem Wc_x {c : Nat} {D : Nat → Bool} (h : Wc S rr c D) (e : xI T 276 c = xI S 276 c) : Wc T rr c D := by
  unfold Wc
  rw [e]
  exact h
theorem Oa_x {a : Nat} {D : Nat → Bool} (h : Oa S rr a D) (e : xI T 277 a = xI S 277 a) : Oa T rr a D := by
  unfold Oa
  rw [e]
  exact h
theorem m1_nI (d : Nat) (hd : d < 100) : nI (d + 1) + (-1) = nI d := by
  have e1 : nI (d + 1) - 1 = nI d := by rw [show (1 : Int32) = nI 1 from rfl, pk_sub (by omega)]; rfl
  rw [← e1]; exact (Int32.sub_eq_add_neg (nI (d + 1)) 1).symm
theorem k_m39 (hF : 16400 ≤ F) {j b : Nat} (hr : Ba r) (hj : j < 16) (hb : b < 32) {D : Nat → Bool} (wr : WR (rr b)) (K : Nat → Nat → Int32 → Int32 → Int32 → gk_S → Option (Unit × gk_S)) (q sh : Int32) : ∀ d fu (T : gk_S), d ≤ 7 → d < fu → Sh T → CUs T ms vs → CR T (ru r j) (rr b) → (∀ c, c < 7 → (c < d → MTc T ms vs rr c D ∧ Wc T rr c D) ∧ (d ≤ c → MTc T ms vs rr c (dn D b) ∧ Wc T rr c (dn D b))) → (∀ a, a < 3 → Oa T rr a D) → ∃ T', f_X7_addMet_39 F K fu 257 r q sh (nI j) (ru r j) (nI (2 ^ b)) (bI (wh (rr b) d)) (nI d + (-1)) T = K 257 r q sh (nI (j + 1)) T' ∧ FM T T' ∧ xI T' 276 7 = xI T 276 7 ∧ (∀ c, c < 7 → MTc T' ms vs rr c (dn D b) ∧ Wc T' rr c (dn D b)) ∧ ∀ a, a < 3 → Oa T' rr a (dn D b) := by
  intro d
  induction d with
  | zero =>
    intro fu T h1 h2 hs cu cr hm ho
    obtain ⟨fu, rfl⟩ : ∃ z, fu = z + 1 := ⟨fu - 1, by omega⟩
    have a3 := wr.1
    obtain ⟨O, o1, o2, o3⟩ := ho (rr b).a a3
    have ao : aI T 277 (nI (rr b).a) = nI O := by unfold aI; rw [nI_clamp (by omega)]; exact o2
    obtain ⟨O', p1, p2, p3⟩ := or_new (P := fun i => decide ((rr i).a = (rr b).a)) (D := D) o1 hb o3 true (by rw [decide_eq_true rfl])
    rw [if_pos rfl] at p2
    have f1 : FM T (wI T 277 (nI (rr b).a) (nI O')) := Fr_rI Fr_refl (by decide) _
    have xx : ∀ a, a ≠ 277 → xI (wI T 277 (nI (rr b).a) (nI O')) a = xI T a := fun a ha => ri_ne _ _ _ _ ha
    rw [f_X7_addMet_39, if_pos (by decide), z_u hs hr hj, qk_true, qv_eq, cr.1, if_neg (nI_pos (by omega)), if_neg (show ¬ (3 : Int32) ≤ nI (rr b).a from nI_ge (b := 3) a3 (by omega)), z_i257 hs, qk_true, z_p505_257 hs, qP_some', z_i277 hs, qk_true, z_l277 hs, inb_n a3 (by omega), qk_true, qv_eq, ao, qk_true, p2, qv_eq, nI_1]
    refine ⟨_, rfl, f1, by rw [xx _ (by decide)], fun c hc => ?_, fun a ha => ?_⟩
    · obtain ⟨x1, x2⟩ := (hm c hc).2 (Nat.zero_le _)
      exact ⟨MTc_x x1 (xx _ (by omega)), Wc_x x2 (by rw [xx _ (by decide)])⟩
    · by_cases e : a = (rr b).a
      · rw [e]
        refine ⟨O', p1, ?_, p3⟩
        rw [ri_eq _ _ (by omega), if_pos rfl]
      · obtain ⟨O2, w1, w2, w3⟩ := ho a ha
        refine ⟨O2, w1, ?_, fun i hi => ?_⟩
        · rw [ri_eq _ _ (by omega), if_neg e]; exact w2
        · rw [w3 i hi]
          unfold dn
          by_cases e2 : i = b
          · rw [e2, decide_eq_false (show ¬ (rr b).a = a from fun h => e h.symm), Bool.and_false, Bool.and_false]
          · rw [decide_eq_false e2, Bool.or_false]
  | succ d ih =>
    intro fu T h1 h2 hs cu cr hm ho
    obtain ⟨fu, rfl⟩ : ∃ z, fu = z + 1 := ⟨fu - 1, by omega⟩
    have hd7 : d < 7 := by omega
    obtain ⟨xm, W, w1, w2, w3⟩ := (hm d hd7).1 (by omega)
    have aw : aI T 276 (nI d) = nI W := by unfold aI; rw [nI_clamp (by omega)]; exact w2
    have m65 := (cu d hd7).2.1
    -- with the new flag
    have s64 : ∀ g, g = wh (rr b) d → ∃ T', f_X7_addMet_64 F (f_X7_addMet_39 F K fu) 257 r q sh (nI j) (ru r j) (nI (2 ^ b)) (nI d) (bI g) T = K 257 r q sh (nI (j + 1)) T' ∧ FM T T' ∧ xI T' 276 7 = xI T 276 7 ∧ (∀ c, c < 7 → MTc T' ms vs rr c (dn D b) ∧ Wc T' rr c (dn D b)) ∧ ∀ a, a < 3 → Oa T' rr a (dn D b) := by
      intro g hg
      obtain ⟨W', p1, p2, p3⟩ := or_new (P := fun i => wh (rr i) d) (D := D) w1 hb w3 g hg
      have f1 : FM T (wI T 276 (nI d) (nI W')) := Fr_rI Fr_refl (by decide) _
      have xx : ∀ a, a ≠ 276 → xI (wI T 276 (nI d) (nI W')) a = xI T a := fun a ha => ri_ne _ _ _ _ ha
      have x6 : ∀ i, xI (wI T 276 (nI d) (nI W')) 276 i = if i = d then nI W' else xI T 276 i := fun i => ri_eq _ _ (by omega) _ i
      have hs1 := Sh_wI hs 276 (nI d) (nI W')
      have cu1 := CUs_FM cu f1
      have cr1 := CR_FM cr f1
      have xm1 : MTc (wI T 276 (nI d) (nI W')) ms vs rr d D := MTc_x xm (xx _ (by omega))
      obtain ⟨T1, y1, y2, y3, y4⟩ := k_mb3 (F := F) (D := D) hr hj hd7 hb wr (ms d) 0 F (wI T 276 (nI d) (nI W')) (by omega) (by omega) hs1 cu1 cr1 (fun k' hk' => by
        obtain ⟨M, m1, m2, m3⟩ := xm1 k' hk'
        exact ⟨M, m1, m2, fun i hi => by rw [m3 i hi, if_neg (Nat.not_lt_zero _)]⟩)
      have y1' : f_X7_addMetBy F (wI T 276 (nI d) (nI W')) 257 (ru r j) (nI d) (nI (2 ^ b)) = some ((), T1) := y1
      have hs2 := FM_Sh y2 hs1
      have x61 : xI T1 276 = xI (wI T 276 (nI d) (nI W')) 276 := y3 276 (by omega)
      have hm1 : ∀ c, c < 7 → (c < d → MTc T1 ms vs rr c D ∧ Wc T1 rr c D) ∧ (d ≤ c → MTc T1 ms vs rr c (dn D b) ∧ Wc T1 rr c (dn D b)) := by
        intro c hc
        refine ⟨fun hcd => ?_, fun hcd => ?_⟩
        · obtain ⟨u1, u2⟩ := (hm c hc).1 (by omega)
          exact ⟨MTc_x u1 ((y3 _ (by omega)).trans (xx _ (by omega))), Wc_x u2 (by rw [x61, x6, if_neg (by omega)])⟩
        · by_cases e : c = d
          · rw [e]
            refine ⟨y4, W', p1, ?_, p3⟩
            rw [x61, x6, if_pos rfl]
          · obtain ⟨u1, u2⟩ := (hm c hc).2 (by omega)
            exact ⟨MTc_x u1 ((y3 _ (by omega)).trans (xx _ (by omega))), Wc_x u2 (by rw [x61, x6, if_neg e])⟩
      obtain ⟨T2, z1, z2, z3, z4, z5⟩ := ih fu T1 (by omega) (by omega) hs2 (CUs_FM cu1 y2) (CR_FM cr1 y2) hm1 (fun a ha => Oa_x (ho a ha) (by rw [y3 277 (by omega), xx 277 (by decide)]))
      unfold f_X7_addMet_64 f_X7_addMet_85
      have fin : ∀ v : Int32, v = nI W' → (∃ T', (qk (isb T 276 11) <| qk (inb (nI d) (gL T 276)) <| qv (wI T 276 (nI d) v) fun S62 => qk (isb S62 257 5) <| qc (f_X7_addMetBy F S62 257 (ru r j) (nI d) (nI (2 ^ b))) fun x67 S68 => f_X7_addMet_39 F K fu 257 r q sh (nI j) (ru r j) (nI (2 ^ b)) (bI g) (nI d + (-1)) S68) = K 257 r q sh (nI (j + 1)) T' ∧ FM T T' ∧ xI T' 276 7 = xI T 276 7 ∧ (∀ c, c < 7 → MTc T' ms vs rr c (dn D b) ∧ Wc T' rr c (dn D b)) ∧ ∀ a, a < 3 → Oa T' rr a (dn D b)) := by
        intro v hv
        rw [hv, z_i276 hs, qk_true, z_l276 hs, inb_n (show d < 8 by omega) (by omega), qk_true, qv_eq, z_i257 hs1, qk_true, y1', qc_some', hg, z1]
        refine ⟨T2, rfl, Fr_trans f1 (Fr_trans y2 z2), ?_, z4, z5⟩
        rw [z3, x61, x6, if_neg (by omega)]
      rw [z_i257 hs, qk_true, z_p504_257 hs, qP_some', z_i276 hs, qk_true, z_l276 hs, inb_n (show d < 8 by omega) (by omega), qk_true, qv_eq, aw]
      have fin' := fin
      rw [z_i276 hs, z_l276 hs, inb_n (show d < 8 by omega) (by omega)] at fin'
      cases g
      · rw [if_neg (by decide)] at p2
        rw [if_pos (show bI false = 0 from rfl)]
        exact fin' _ p2
      · rw [if_pos rfl] at p2
        rw [if_neg (show ¬ bI true = 0 by decide)]
        exact fin' _ p2
    rw [m1_nI d (by omega), f_X7_addMet_39, if_neg (nI_pos (by omega))]
    have whs := wh_s hd7 (rr b)
    cases wf : wh (rr b) (d + 1)
    · rw [if_pos (show bI false = 0 from rfl)]
      exact s64 false (by rw [whs, wf, Bool.and_false])
    · rw [if_neg (show ¬ bI true = 0 by decide), z_u hs hr hj, qk_true]
      have iw : f_X5_isWhole F T (ru r j) (nI d) = some (bI (isw (rr b) d), T) := by
        unfold isw
        by_cases c6 : d < 6
        · rw [if_pos c6]; exact k_isWh hs hr hj cr wr c6
        · rw [if_neg c6, show d = 6 by omega]; exact k_isWh6 hs hr hj cr wr
      rw [iw, qc_some']
      cases wi : isw (rr b) d
      · rw [if_pos (show bI false = 0 from rfl)]
        exact s64 false (by rw [whs, wi, Bool.false_and])
      · rw [if_neg (show ¬ bI true = 0 by decide)]
        exact s64 true (by rw [whs, wi, wf]; rfl)
def Dj (D : Nat → Bool) (sh j i : Nat) : Bool := D i || (decide (sh ≤ i) && decide (i < sh + j))
theorem Dj_s (D : Nat → Bool) (sh j : Nat) : dn (Dj D sh j) (sh + j) = Dj D sh (j + 1) := by
  funext i
  unfold dn Dj
  cases D i
  · rw [Bool.false_or, Bool.false_or]
    by_cases e : i = sh + j
    · subst e
      rw [decide_eq_true (show sh ≤ sh + j by omega), decide_eq_true (show sh + j < sh + (j + 1) by omega), decide_eq_true rfl, Bool.or_true]; rfl
    · rw [decide_eq_false e, Bool.or_false]
      congr 1
      exact decide_eq_decide.mpr (by omega)
  · rw [Bool.true_or, Bool.true_or, Bool.true_or]
theorem shl_32 : ∀ k, k < 32 → (1 : Int32) <<< (nI k &&& 31) = nI (2 ^ k) := by decide +kernel
theorem k_addMet (hF : 16400 ≤ F) (hr : Ba r) (w : WL L) {n sh : Nat} (hn : n ≤ L.n) (hsh : sh = 0 ∨ sh = 16) (hrr : ∀ j, j < n → rr (sh + j) = L.r j) {D : Nat → Bool} : ∀ d fu (T : gk_S), d ≤ n → d < fu → Sh T → CUs T ms vs → CL T r L → (∀ c, c < 7 → MTc T ms vs rr c (Dj D sh (n - d)) ∧ Wc T rr c (Dj D sh (n - d))) → (∀ a, a < 3 → Oa T rr a (Dj D sh (n - d))) → ∃ T', f_X7_addMet_3 F fu 257 r (nI n) (nI sh) (nI (n - d)) T = some ((), T') ∧ FM T T' ∧ xI T' 276 7 = xI T 276 7 ∧ (∀ c, c < 7 → MTc T' ms vs rr c (Dj D sh n) ∧ Wc T' rr c (Dj D sh n)) ∧ ∀ a, a < 3 → Oa T' rr a (Dj D sh n) := by
  have n16 := w.1
  intro d
  induction d with
  | zero =>
    intro fu T h1 h2 hs cu cl hm ho
    obtain ⟨fu, rfl⟩ : ∃ z, fu = z + 1 := ⟨fu - 1, by omega⟩
    rw [f_X7_addMet_3, if_pos (nI_le (by omega) (by omega))]
    exact ⟨T, rfl, Fr_refl, rfl, hm, ho⟩
  | succ d ih =>
    intro fu T h1 h2 hs cu cl hm ho
    obtain ⟨fu, rfl⟩ : ∃ z, fu = z + 1 := ⟨fu - 1, by omega⟩
    have hj : n - (d + 1) < 16 := by omega
    have eb : rr (sh + (n - (d + 1))) = L.r (n - (d + 1)) := hrr _ (by omega)
    have cr : CR T (ru r (n - (d + 1))) (rr (sh + (n - (d + 1)))) := by rw [eb]; exact cl.2.2 _ (by omega)
    have wr : WR (rr (sh + (n - (d + 1)))) := by rw [eb]; exact w.2.2 _ (by omega)
    have e1 : nI (n - (d + 1)) + nI sh = nI (sh + (n - (d + 1))) := by rw [nI_add, Nat.add_comm]
    obtain ⟨T1, a1, a2, a3, a4, a5⟩ := k_m39 (F := F) (D := Dj D sh (n - (d + 1))) hF hr hj (show sh + (n - (d + 1)) < 32 by omega) wr (f_X7_addMet_3 F fu) (nI n) (nI sh) 7 F T (by omega) (by omega) hs cu cr (fun c hc => ⟨fun _ => hm c hc, fun q => by omega⟩) ho
    rw [Dj_s, show n - (d + 1) + 1 = n - d by omega] at a4 a5
    rw [show n - (d + 1) + 1 = n - d by omega] at a1
    have hs1 := FM_Sh a2 hs
    have cl1 : CL T1 r L := CL_c cl (a2.2.2.2.1 _ _ (by simp)) (a2.2.2.2.1 _ _ (by simp)) (fun i hi => ⟨a2.2.2.2.1 _ _ (by simp), a2.2.2.2.1 _ _ (by simp), a2.2.2.2.2.2.2.2.1 _ (by simp), a2.2.2.2.2.2.2.2.1 _ (by simp)⟩)
    obtain ⟨T2, b1, b2, b3, b4, b5⟩ := ih fu T1 (by omega) (by omega) hs1 (CUs_FM cu a2) cl1 a4 a5
    have a1' : f_X7_addMet_39 F (f_X7_addMet_3 F fu) F 257 r (nI n) (nI sh) (nI (n - (d + 1))) (ru r (n - (d + 1))) (nI (2 ^ (sh + (n - (d + 1))))) 1 6 T = f_X7_addMet_3 F fu 257 r (nI n) (nI sh) (nI (n - d)) T1 := a1
    rw [f_X7_addMet_3, if_neg (nI_ge (by omega) (by omega)), if_neg (show ¬ (16 : Int32) ≤ nI (n - (d + 1)) from nI_ge (b := 16) hj (by omega)), z_r hs hr, qk_true, k_at hs hr hj, qc_some', e1, shl_32 _ (by omega), qv_eq, a1', b1]
    exact ⟨T2, rfl, Fr_trans a2 b2, b3.trans a3, b4, b5⟩
end MEU
