/-! the model reads a rule -/
/-- a rule is read; its list has it, but hasn't counted it yet -/
def MO2 (T : gk_S) (b : Nat → Nat) (m : Nat) (f : Option (Int32 × gk_S)) (A : AS) : Prop := MFt T b m f A ∨ ∃ T' B L, MF T T' ∧ f = some (1, T') ∧ MD T' b m ∧ MTk T' b (wsE b m (AS.o B)) (tok b m (wsE b m (AS.o B))) ∧ WA m B ∧ RA b m A = RA b m B ∧ AS.w B = 4 ∧ A.o < AS.o B ∧ ML4 T' L True ∧ AS.L B = (AL.n L + 1, AL.p L, AL.r L) ∧ AL.n L = A.L.n
section MRL
variable {S T : gk_S} {F m : Nat} {b : Nat → Nat} {A A' : AS}
theorem MO2_s {T0 : gk_S} {f : Option (Int32 × gk_S)} (g : MF T0 T) (hR : RA b m A = RA b m A') (hn : A'.L.n = A.L.n) (ho : A.o ≤ A'.o) (h : MO2 T b m f A') : MO2 T0 b m f A := by
  rcases h with h | ⟨T', B, L, h1, h2, h3, h4, h5, h6, h7, h8, h9, h10, h11⟩
  · exact Or.inl (MFt_s g hR h)
  · exact Or.inr ⟨T', B, L, MF_trans g h1, h2, h3, h4, h5, hR.trans h6, h7, by omega, h9, h10, h11.trans hn⟩
theorem v_191 (hF : 16400 ≤ F) (h : MA T b m A) (hA : WA m A) (h5 : 5 ≤ A.w) (tp' : tak (tk b m A.o).1 (tk b m A.o).2.1 (wk b (tk b m A.o)) (tk b m A.o).2.2.2 A = tPart (tk b m A.o).1 (tk b m A.o).2.1 (wk b (tk b m A.o)) (tk b m A.o).2.2.2 A) (np : ¬ (4 ≤ wk b (tk b m A.o) ∧ wk b (tk b m A.o) < 11)) : MO2 T b m (f_X12_rule_191 F 352 T) A := by
  have m2 := h.1.2.2.1
  have v := MA_v h hA
  have cc := h.2.2.2.2.2 h5
  unfold tPart at tp'
  unfold f_X12_rule_191 f_X12_mustSign
  rw [z_i352 h.1.1, qk_true, qk_true, v_sg59 h.1.1 v, qc_some']
  by_cases c : (tk b m A.o).1 = 4 ∧ (tk b m A.o).2.1 = 59
  · rw [if_pos c] at tp'
    obtain ⟨s1, s2, s3, s4⟩ := st_go hA (by omega) (by omega) (by omega) tp' (by show 4 ≠ 0; decide)
    have e4 := (v.2.2.1 (by omega)).2.2.1 (by omega)
    obtain ⟨B, hB⟩ : ∃ B : AS, B = (4, (tk b m A.o).2.2.2, A.n, A.t, A.f, (A.L.n + 1, A.L.p, A.L.r)) := ⟨_, rfl⟩
    rw [← hB] at s1 s2 s3 s4
    have l4 : ML4 T A.L True := ML4_c h.2.2 (fun _ => h5) ⟨rfl, rfl, rfl, rfl, rfl, rfl⟩
    obtain ⟨T', r1, r2, r3, r4, r5⟩ := v_nx (F := F) (e := B.o) hF h.1 (by rw [s3]; exact e4) s1.1 l4
    rw [decide_eq_true c, if_neg (show ¬ bI true = 0 by decide), z_i352 h.1.1, qk_true, r1, qc_some', qc_some', show zb 1 = true from rfl, qk_true]
    exact Or.inr ⟨T', B, A.L, r2, rfl, r3, r4, s1, s4, by rw [hB], s2, r5, by rw [hB], rfl⟩
  · rw [if_neg c, if_neg np] at tp'
    rw [decide_eq_false c, if_pos (show bI false = 0 from rfl), z_i352 h.1.1, qk_true]
    exact Or.inl (MFt_w (MFt_w (v_cant h.1.1 hA (by omega) m2 v (fun _ _ => tp'))))
theorem v_r65 (hF : 16400 ≤ F) : ∀ d fu (T : gk_S) (A : AS), MA T b m A → WA m A → 5 ≤ A.w → A.w ≠ 10 → tak (tk b m A.o).1 (tk b m A.o).2.1 (wk b (tk b m A.o)) (tk b m A.o).2.2.2 A = tPart (tk b m A.o).1 (tk b m A.o).2.1 (wk b (tk b m A.o)) (tk b m A.o).2.2.2 A → m + 1 - A.o ≤ d → d < fu → MO2 T b m (f_X12_rule_65 F fu 352 (nI (64 + A.L.n)) (nI A.n) T) A := by
  intro d
  induction d with
  | zero => intro fu T A h hA h5 h10 tq h1 h2; have := hA.1; omega
  | succ d ih =>
    intro fu T A h hA h5 h10 tq h1 h2
    obtain ⟨fu, rfl⟩ : ∃ q, fu = q + 1 := ⟨fu - 1, by omega⟩
    have m2 := h.1.2.2.1
    obtain ⟨w1, w2, w3, w4⟩ := hA.2.2.2.2.2.1 h5
    have v := MA_v h hA
    have cc := h.2.2.2.2.2 h5
    by_cases acc : 4 ≤ wk b (tk b m A.o) ∧ wk b (tk b m A.o) < 11
    · obtain ⟨v1, v2, v3⟩ := v_wv v rfl (by omega)
      have l : ¬ (tk b m A.o).1 = 6 := by omega
      have e4 := (v.2.2.1 l).2.2.1 (by omega)
      unfold tPart at tq
      rw [if_neg (show ¬ ((tk b m A.o).1 = 4 ∧ (tk b m A.o).2.1 = 59) by omega), if_pos acc] at tq
      have z4 : ¬ nI (wk b (tk b m A.o)) < 4 := nI_nlt (b := 4) acc.1 (by omega)
      have z10 : ¬ (10 : Int32) < nI (wk b (tk b m A.o)) := nI_nlt (a := 10) (by omega) (by omega)
      have e4' : nI (wk b (tk b m A.o)) - 4 = nI (wk b (tk b m A.o) - 4) := by rw [show (4 : Int32) = nI 4 from rfl, pk_sub acc.1]
      rw [f_X12_rule_65, z_i352 h.1.1, qk_true, qv_eq, v.2.1, if_pos ((zk1 v).mpr v2), qv_eq, v1, if_neg z4, qv_eq, if_neg z10, v.2.2.2.2.2 F, qc_some', decide_eq_false l, if_pos (show bI false = 0 from rfl), z_i352 h.1.1, qk_true, qv_eq, v1, e4']
      obtain ⟨p, hp⟩ : ∃ p, p = wk b (tk b m A.o) - 4 := ⟨_, rfl⟩
      rw [← hp] at tq ⊢
      have hp7 : p < 7 := by omega
      have zb := bit7 A.n w2 p hp7
      cases tb : Nat.testBit A.n p
      · rw [tb, if_neg (by decide)] at tq
        rw [if_neg (fun q => by rw [zb.2.mp q] at tb; exact absurd tb (by decide)), qv_eq, or7 A.n w2 p hp7 tb]
        have l4 : ML4 T A.L True := ML4_c h.2.2 (fun _ => h5) ⟨rfl, rfl, rfl, rfl, rfl, rfl⟩
        obtain ⟨T2, r1, r2, r3, r4, r5⟩ := v_nx (F := F) (e := (tk b m A.o).2.2.2) hF h.1 e4 ((tk_ok b hA.1).2.2.1 (by omega)).2 l4
        rw [r1, qc_some']
        have z6 : nI p = 6 ↔ p = 6 := nI_eq (b := 6) (by omega) (by omega)
        have y2 : nI p = 2 ↔ p = 2 := nI_eq (b := 2) (by omega) (by omega)
        have y3 : nI p = 3 ↔ p = 3 := nI_eq (b := 3) (by omega) (by omega)
        -- what is left once a part is read
        have rest : ∀ (A1 : AS) (T3 : gk_S) (f : Option (Int32 × gk_S)), MF T T3 → RA b m A = RA b m A1 → A.o < A1.o → A1.L.n = A.L.n → A1.n = A.n + 2 ^ p → MO T3 b m f A1 (PQr b m A1) → MO2 T b m (qc f fun x95 S96 => if x95 = (0 : Int32) then some (0, S96) else f_X12_rule_65 F fu 352 (nI (64 + A.L.n)) (nI (A.n + 2 ^ p)) S96) A := by
          intro A1 T3 f g1 g2 g3 g4 g5 g6
          rcases g6 with ⟨T', f1, κ, pl, q1, q2, q3, q4, q5, q6⟩ | ⟨T', B, q1, q2, q3, q4, q5, q6⟩
          · exact Or.inl ⟨T', MG_s g1 f1, κ, pl, g2.trans q1, q2, q3, q4, by rw [q5, qc_some', if_pos rfl], q6⟩
          · rw [q2, qc_some', if_neg one_ne]
            obtain ⟨t1, t2, t3⟩ := PQ_tak q6
            obtain ⟨b1, b2, b3, b4⟩ := q6
            have r := ih fu T' B q3 q4 t2 t3 t1 (by have := q4.1; omega) (by omega)
            rw [b2, b3, g4, g5] at r
            exact MO2_s (MF_trans g1 q1) (g2.trans q5) (by rw [b2, g4]) (by omega) r
        by_cases q6 : p = 6
        · have w10 : wk b (tk b m A.o) = 10 := by omega
          rw [if_pos w10] at tq
          obtain ⟨s1, s2, s3, s4⟩ := st_go hA (by omega) (by omega) l tq (by show 10 ≠ 0; decide)
          obtain ⟨A1, hA1⟩ : ∃ B : AS, B = (10, (tk b m A.o).2.2.2, A.n + 2 ^ p, 6, A.f, upR A.L (sSt A.c 0)) := ⟨_, rfl⟩
          rw [← hA1] at s1 s2 s3 s4
          have en : A1.L.n = A.L.n := by rw [hA1]; rfl
          have cc2 := r5.2.2.2 trivial
          have hT3 : MD (wI T2 357 (nI (64 + A.L.n)) 0) b m := MD_wI r3 (by omega) _ _
          have hl3 : ML4 (wI T2 357 (nI (64 + A.L.n)) 0) A1.L (5 ≤ A1.w) := by
            rw [hA1]
            refine ML4_up r5 (ri_ne _ _ _ _ (by decide)) (ri_ne _ _ _ _ (by decide)) (fun a i ha hi => ?_) (fun _ _ _ _ => by rfl) ⟨?_, ?_, ?_⟩ _
            · rcases ha with rfl | rfl
              · rw [ri_ne _ _ _ _ (by decide)]
              · rw [ri_eq _ _ (by omega), if_neg hi]
            · rw [ri_ne _ _ _ _ (by decide)]; exact cc2.1
            · rw [ri_eq _ _ (by omega), if_pos rfl]; rfl
            · exact cc2.2.2
          have hM : MA (wI T2 357 (nI (64 + A.L.n)) 0) b m A1 := ⟨hT3, by rw [s3]; exact r4, hl3⟩
          have hf3 : MF T (wI T2 357 (nI (64 + A.L.n)) 0) := MF_wI r2 (by omega) (by omega) _
          have k := v_rs9 (F := F) hF (m + 1) F _ A1 hM s1 (by rw [hA1]) (by omega) (by omega)
          rw [en] at k
          rw [if_pos (z6.mpr q6), z_i352 r3.1, qk_true]
          unfold f_X12_readStates
          rw [z_i352 r3.1, qk_true, z_p908_352 r3.1, qP_some', z_i357 r3.1, qk_true, z_l357 r3.1, inb_n (show 64 + A.L.n < 96 by omega) (by omega), qk_true, qv_eq]
          exact rest A1 _ _ hf3 s4 s2 en (by rw [hA1]) k
        · rw [if_neg (show ¬ wk b (tk b m A.o) = 10 by omega)] at tq
          obtain ⟨s1, s2, s3, s4⟩ := st_go hA (by omega) (by omega) l tq (by show 6 ≠ 0; decide)
          obtain ⟨A1, hA1⟩ : ∃ B : AS, B = (6, (tk b m A.o).2.2.2, A.n + 2 ^ p, p, A.f, A.L) := ⟨_, rfl⟩
          rw [← hA1] at s1 s2 s3 s4
          have en : A1.L.n = A.L.n := by rw [hA1]
          have et : A1.t = p := by rw [hA1]
          have hM : MA T2 b m A1 := ⟨r3, by rw [s3]; exact r4, by rw [hA1]; exact ML4_c r5 (fun _ => trivial) ⟨rfl, rfl, rfl, rfl, rfl, rfl⟩⟩
          have ex : (6 : Int32) * nI (64 + A.L.n) + nI p = nI (6 * (64 + A.L.n) + p) := by rw [show (6 : Int32) = nI 6 from rfl, pk_mul, nI_add]
          rw [if_neg (fun q => q6 (z6.mp q))]
          by_cases c23 : p = 2 ∨ p = 3
          · have k := v_addr (F := F) hF hM s1 (by rw [hA1]) (by rw [et]; exact c23)
            rw [et, en] at k
            have r := rest A1 T2 _ r2 s4 s2 en (by rw [hA1]) k
            unfold f_X12_rule_156
            rw [ex, z_i352 r3.1, qk_true]
            rcases c23 with c2 | c3
            · rw [if_pos (y2.mpr c2)]; exact r
            · rw [if_neg (fun q => by have := y2.mp q; omega), if_pos (y3.mpr c3)]; exact r
          · have k := v_range (F := F) hF hM s1 (by rw [hA1]) (by rw [et]; exact c23)
            rw [et, en] at k
            rw [if_neg (fun q => c23 (Or.inl (y2.mp q))), if_neg (fun q => c23 (Or.inr (y3.mp q))), z_i352 r3.1, qk_true, ex]
            exact rest A1 T2 _ r2 s4 s2 en (by rw [hA1]) k
      · rw [tb, if_pos rfl] at tq
        rw [if_pos (zb.2.mpr tb)]
        exact Or.inl (MFt_w (v_wrongF (κ := 4) h.1.1 hA (by omega) m2 v (by omega) (by omega) (by omega) l tq))
    · have n := v_191 (F := F) hF h hA h5 tq acc
      rw [f_X12_rule_65, z_i352 h.1.1, qk_true, qv_eq, v.2.1]
      rcases MV_w v with ⟨c, w, x1, x2, x3, x4⟩ | ⟨c, x1⟩
      · have z4 : wval w 18 < 4 ↔ w < 4 ∨ w = 18 := wv_lt (c := 4) x1 (by omega)
        have z10 : (10 : Int32) < wval w 18 ↔ 10 < w ∧ w < 18 := wv_gt (c := 10) x1 (by omega)
        rw [if_pos ((zk1 v).mpr c), qv_eq, x2]
        by_cases q1 : w < 4 ∨ w = 18
        · rw [if_pos (z4.mpr q1)]; exact n
        rw [if_neg (fun q => q1 (z4.mp q)), qv_eq]
        by_cases q2 : 10 < w ∧ w < 18
        · rw [if_pos (z10.mpr q2)]; exact n
        · have l : (tk b m A.o).1 = 6 := by
            rcases Nat.decEq (tk b m A.o).1 6 with l | l
            · have := x3 l; omega
            · exact l
          rw [if_neg (fun q => q2 (z10.mp q)), v.2.2.2.2.2 F, qc_some', decide_eq_true l, if_neg (show ¬ bI true = 0 by decide)]
          exact n
      · rw [if_neg (fun q => c ((zk1 v).mp q))]; exact n
end MRL
