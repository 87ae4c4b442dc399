/-! the class prepares: all of it -/
def ff (_ : Nat) : Bool := false
theorem Dj_0 (D : Nat → Bool) (sh : Nat) : Dj D sh 0 = D := by
  funext i
  unfold Dj
  by_cases h : sh ≤ i
  · rw [decide_eq_false (show ¬ i < sh + 0 by omega), Bool.and_false, Bool.or_false]
  · rw [decide_eq_false h, Bool.false_and, Bool.or_false]
section PRQ
variable {S T : gk_S} {F r1 r2 : Nat} {L1 L2 : AL}
theorem Fr6_FP (f : Frm [506] [] [] [] [] [] S T) : FP S T := Fr_mono f (by simp) (by simp) (by simp) (by simp) (by simp) (by simp)
theorem k_prep (hF : 16400 ≤ F) (hr1 : Ba r1) (hr2 : Ba r2) (w1 : WL L1) (w2 : WL L2) {n1 n2 : Nat} (hn1 : n1 ≤ L1.n) (hn2 : n2 ≤ L2.n) (hs : Sh T) (c1 : CL T r1 L1) (c2 : CL T r2 L2) : ∃ T' ms vs tw, f_X7_prepare F T 257 r1 (nI n1) r2 (nI n2) = some ((), T') ∧ FP T T' ∧ PR T' L1.r L2.r (αr L1) (αr L2) n1 n2 ms vs tw := by
  have b1 := w1.1
  have b2 := w2.1
  obtain ⟨T1, p1, p2, p3, p4⟩ := k_p3 (F := F) (r1 := r1) (r2 := r2) (nI n1) (nI n2) 7 0 F T (by omega) (by omega) hs (fun c hc => by omega)
  have h1 := FP_Sh p2 hs
  obtain ⟨T2, q1, q2, q3, q4, q5⟩ := k_p53 (F := F) (r1 := r1) (r2 := r2) (nI n1) (nI n2) 3 0 F T1 (by omega) (by omega) h1 (fun c hc => by omega)
  have h2 := FP_Sh q2 h1
  have f2 := Fr_trans p2 q2
  have cu2 : CUs T2 (fun _ => 1) (fun _ _ => 0) := by
    intro c hc
    obtain ⟨x1, x2, x3⟩ := p3 c hc
    show CU T2 c 1 (fun _ => 0)
    refine ⟨by omega, by omega, by rw [q3 275 (by decide)]; exact x2, rfl, fun k hk => ?_⟩
    have k0 : k = 0 := by omega
    subst k0
    exact ⟨by rw [q4]; exact x1, Nat.zero_le _, fun j hj => by omega⟩
  obtain ⟨T3, ms3, vs3, s1, s2, s3, s4, s5, s6, s7⟩ := k_addCuts (F := F) hF hr1 w1 hn1 n1 F T2 (fun _ => 1) (fun _ _ => 0) (Nat.le_refl _) (by omega) h2 cu2 (CL_FP hr1 c1 b1 f2) (fun c _ => by show 1 + 2 * n1 ≤ 65; omega)
  rw [Nat.sub_self] at s1
  have h3 := FK_Sh s2 h2
  have f3 := Fr_trans f2 (FP_K s2)
  obtain ⟨T4, ms, vs, t1, t2, t3, t4, t5, t6, t7⟩ := k_addCuts (F := F) hF hr2 w2 hn2 n2 F T3 ms3 vs3 (Nat.le_refl _) (by omega) h3 s3 (CL_FP hr2 c2 b2 f3) (fun c hc => by have : ms3 c ≤ 1 + 2 * n1 := s4 c hc; omega)
  rw [Nat.sub_self] at t1
  have h4 := FK_Sh t2 h3
  have f4 := Fr_trans f3 (FP_K t2)
  obtain ⟨T5, u1, u2, u3, u4⟩ := k_clear (F := F) hF 7 0 F T4 (by omega) (by omega) h4 t3 (fun c hc => by omega)
  have h5 := FM_Sh u2 h4
  have f5 := Fr_trans f4 (FP_M u2)
  have cu5 := CUs_FM t3 u2
  have x5 : ∀ b, (b = 276 ∨ b = 277) → xI T5 b = xI T2 b := fun b hb => by
    rw [u3 b (by omega), t2.2.2.2.2.2.2.1 b (by simp; omega), s2.2.2.2.2.2.2.1 b (by simp; omega)]
  have mt5 : ∀ c, c < 7 → MTc T5 ms vs (rr2 L1 L2) c ff ∧ Wc T5 (rr2 L1 L2) c ff := by
    intro c hc
    refine ⟨fun k hk => ⟨0, by omega, u4 c hc k hk, fun i _ => by rw [Nat.zero_testBit]; rfl⟩, 0, by omega, ?_, fun i _ => by rw [Nat.zero_testBit]; rfl⟩
    rw [x5 276 (Or.inl rfl), q3 276 (by decide)]
    exact (p3 c hc).2.2
  have oa5 : ∀ a, a < 3 → Oa T5 (rr2 L1 L2) a ff := fun a ha => ⟨0, by omega, by rw [x5 277 (Or.inr rfl)]; exact q5 a ha, fun i _ => by rw [Nat.zero_testBit]; rfl⟩
  obtain ⟨T6, v1, v2, v3, v4, v5⟩ := k_addMet (F := F) (sh := 0) (rr := rr2 L1 L2) (D := ff) hF hr1 w1 hn1 (Or.inl rfl) (fun j hj => by unfold rr2; rw [if_pos (by omega), Nat.zero_add]) n1 F T5 (Nat.le_refl _) (by omega) h5 cu5 (CL_FP hr1 c1 b1 f5) (by rw [Nat.sub_self, Dj_0]; exact mt5) (by rw [Nat.sub_self, Dj_0]; exact oa5)
  rw [Nat.sub_self] at v1
  have h6 := FM_Sh v2 h5
  have f6 := Fr_trans f5 (FP_M v2)
  have cu6 := CUs_FM cu5 v2
  obtain ⟨T7, y1, y2, y3, y4, y5⟩ := k_addMet (F := F) (sh := 16) (rr := rr2 L1 L2) (D := Dj ff 0 n1) hF hr2 w2 hn2 (Or.inr rfl) (fun j hj => by unfold rr2; rw [if_neg (by omega), show 16 + j - 16 = j by omega]) n2 F T6 (Nat.le_refl _) (by omega) h6 cu6 (CL_FP hr2 c2 b2 f6) (by rw [Nat.sub_self, Dj_0]; exact v4) (by rw [Nat.sub_self, Dj_0]; exact v5)
  rw [Nat.sub_self] at y1
  have h7 := FM_Sh y2 h6
  have f7 := Fr_trans f6 (FP_M y2)
  have cu7 := CUs_FM cu6 y2
  have f8 : Frm [506] [] [] [] [] [] T7 (sI T7 506 257 0) := Fr_sI Fr_refl (by decide) _ _
  have f8' := Fr_trans f7 (Fr6_FP f8)
  obtain ⟨T9, tw, z1, z2, z3, z4, z5⟩ := k_p114 (F := F) hF hr1 hr2 w1 w2 hn1 hn2 16 0 F (sI T7 506 257 0) 0 (by omega) (by omega) (Sh_sI h7 _ _ _) (CL_FP hr1 c1 b1 f8') (CL_FP hr2 c2 b2 f8') (rd_eq _ _ _ _) (by decide) (fun i q => by rw [Nat.zero_testBit] at q; exact absurd q (by decide))
  have xI9 : ∀ b, xI T9 b = xI T7 b := fun b => z2.2.2.2.2.2.2.1 b (by simp)
  have xJ9 : ∀ b, xJ T9 b = xJ T7 b := fun b => z2.2.2.2.2.2.2.2.1 b (by simp)
  refine ⟨T9, ms, vs, tw, ?_, Fr_trans f8' (Fr6_FP z2), ?_⟩
  · unfold f_X7_prepare
    have p1' : f_X7_prepare_3 F F 257 r1 (nI n1) r2 (nI n2) 0 T = f_X7_prepare_53 F F 257 r1 (nI n1) r2 (nI n2) 0 T1 := p1
    have q1' : f_X7_prepare_53 F F 257 r1 (nI n1) r2 (nI n2) 0 T1 = f_X7_prepare_53 F 1 257 r1 (nI n1) r2 (nI n2) 3 T2 := q1
    have s1' : f_X7_addCuts F T2 257 r1 (nI n1) = some ((), T3) := s1
    have t1' : f_X7_addCuts F T3 257 r2 (nI n2) = some ((), T4) := t1
    have u1' : f_X7_clearMet F T4 257 = some ((), T5) := u1
    have v1' : f_X7_addMet F T5 257 r1 (nI n1) 0 = some ((), T6) := v1
    have y1' : f_X7_addMet F T6 257 r2 (nI n2) 16 = some ((), T7) := y1
    have z1' : f_X7_prepare_114 F F 257 r1 (nI n1) r2 (nI n2) 0 (sI T7 506 257 0) = some ((), T9) := z1
    rw [p1', q1', f_X7_prepare_53, if_pos (by decide), z_i257 h2, qk_true, s1', qc_some', z_i257 h3, qk_true, t1', qc_some', z_i257 h4, qk_true, u1', qc_some', z_i257 h5, qk_true, v1', qc_some', z_i257 h6, qk_true, y1', qc_some', z_i257 h7, qk_true, qv_eq, z1']
  · have Da : ∀ i, i < 16 → Dj (Dj ff 0 n1) 16 n2 i = decide (i < n1) := fun i hi => by
      unfold Dj ff
      rw [decide_eq_false (show ¬ 16 ≤ i by omega), decide_eq_true (Nat.zero_le i), Nat.zero_add]
      simp
    have Db : ∀ i, i < 16 → Dj (Dj ff 0 n1) 16 n2 (16 + i) = decide (i < n2) := fun i hi => by
      unfold Dj ff
      rw [decide_eq_true (show 16 ≤ 16 + i by omega), decide_eq_false (show ¬ 16 + i < 0 + n1 by omega)]
      simp
    have ra : ∀ i, i < 16 → rr2 L1 L2 i = L1.r i := fun i hi => by unfold rr2; rw [if_pos hi]
    have rb : ∀ i, rr2 L1 L2 (16 + i) = L2.r i := fun i => by unfold rr2; rw [if_neg (by omega), show 16 + i - 16 = i by omega]
    refine ⟨fun c hc => ?_, fun c hc => ?_, ?_, fun a ha => ?_, ⟨z4, z3, fun i ti => ?_⟩, by omega, by omega, fun i hi => (w1.2.2 i (by omega)).1, fun i hi => (w2.2.2 i (by omega)).1⟩
    · obtain ⟨m1, m2, m3, m4, m5⟩ := cu7 c hc
      refine ⟨m1, m2, by rw [xI9]; exact m3, m4, fun k hk => ?_⟩
      obtain ⟨k1, k2, k3⟩ := m5 k hk
      refine ⟨by rw [xJ9]; exact k1, k2, k3, ?_, fun x x1 x2 x3 => ?_⟩
      · obtain ⟨M, e1, e2, e3⟩ := (y4 c hc).1 k hk
        refine ⟨M, e1, by rw [xI9]; exact e2, fun i hi => ⟨?_, ?_⟩⟩
        · rw [e3 i (by omega), Da i hi, ra i hi]
        · rw [e3 (16 + i) (by omega), Db i hi, rb]
      · -- nothing turns within a cut
        have key : ∀ w, HAS ms vs c w → vs c k < w → ¬ w ≤ x := by
          intro w hw lt le
          obtain ⟨j, j1, j2⟩ := hw
          have kj : k < j := by
            rcases Nat.lt_trichotomy k j with q | q | q
            · exact q
            · rw [q] at lt; omega
            · have := k3 j q; omega
          have := x3 j j1 kj
          omega
        have cst : ∀ ρ : AR, WR ρ → (∀ f, f < 6 → HAS ms vs f (ρ.lo f) ∧ (ρ.hi f + 1 ≤ tp f → HAS ms vs f (ρ.hi f + 1))) → hd ρ c x = hd ρ c (vs c k) := by
          intro ρ wρ hh
          unfold hd
          by_cases c6 : c < 6
          · rw [if_pos c6, if_pos c6]
            obtain ⟨g1, g2⟩ := hh c c6
            have wb := WR_lt wρ c6
            refine decide_eq_decide.mpr ⟨fun e => ⟨?_, by omega⟩, fun e => ⟨by omega, ?_⟩⟩
            · rcases Nat.lt_or_ge (vs c k) (ρ.lo c) with q | q
              · exact absurd e.1 (key _ g1 q)
              · exact q
            · rcases Nat.lt_or_ge (ρ.hi c) x with q | q
              · exact absurd (by omega : ρ.hi c + 1 ≤ x) (key _ (g2 (by omega)) (by omega))
              · exact q
          · rw [if_neg c6, if_neg c6]
            have ec : c = 6 := by omega
            subst ec
            have x6 : x ≤ 3 := x2
            have ex : x = vs 6 k := by
              rcases Nat.lt_or_ge (vs 6 k) x with q | q
              · exact absurd (Nat.le_refl x) (key x (t7 x (by omega) (by omega)) q)
              · omega
            rw [ex]
        refine ⟨fun i hi => cst _ (w1.2.2 i (by omega)) (fun f hf => ?_), fun i hi => cst _ (w2.2.2 i (by omega)) (fun f hf => ?_)⟩
        · obtain ⟨g1, g2⟩ := s6 i (by omega) hi f hf
          exact ⟨t5 f _ (by omega) g1, fun q => t5 f _ (by omega) (g2 q)⟩
        · exact t6 i (by omega) hi f hf
    · obtain ⟨W, e1, e2, e3⟩ := (y4 c hc).2
      refine ⟨W, e1, by rw [xI9]; exact e2, fun i hi => ⟨fun q => ?_, fun q => ?_⟩⟩
      · rw [e3 i (by omega), Da i hi, ra i hi, Bool.and_eq_true] at q
        exact ⟨of_decide_eq_true q.1, fun x vx => wh_mt _ (7 - c) c (by omega) q.2 vx⟩
      · rw [e3 (16 + i) (by omega), Db i hi, rb, Bool.and_eq_true] at q
        exact ⟨of_decide_eq_true q.1, fun x vx => wh_mt _ (7 - c) c (by omega) q.2 vx⟩
    · rw [xI9, y3, v3, x5 276 (Or.inl rfl), q3 276 (by decide)]
      exact p4
    · obtain ⟨O, e1, e2, e3⟩ := y5 a ha
      refine ⟨O, e1, by rw [xI9]; exact e2, fun i hi => ⟨fun q => ?_, fun q => ?_⟩⟩
      · rw [e3 i (by omega), Da i hi, ra i hi, decide_eq_true q, Bool.true_and]
        rfl
      · rw [e3 (16 + i) (by omega), Db i hi, rb, decide_eq_true q, Bool.true_and]
        rfl
    · obtain ⟨g1, g2, g3, g4, g5⟩ := z5 i ti
      refine ⟨g1, g2, fun k v => ?_, g5⟩
      unfold hd
      by_cases k6 : k < 6
      · rw [if_pos k6, if_pos k6, (g3 k k6).1, (g3 k k6).2]
      · rw [if_neg k6, if_neg k6, g4]
end PRQ
