/-! the model reads a list -/
def TX (T : gk_S) (b : Nat → Nat) (m : Nat) (f : Option (Int32 × gk_S)) (A : AS) : Prop := MFt T b m f A ∨ ∃ T' B, MF T T' ∧ f = some (1, T') ∧ RA b m A = .inr B ∧ AS.w B = 0 ∧ WA m B ∧ ML4 T' (AS.L B) False
section MTXT
variable {S T : gk_S} {F m : Nat} {b : Nat → Nat} {A A' : AS}
theorem TX_s {T0 : gk_S} {f : Option (Int32 × gk_S)} (g : MF T0 T) (hR : RA b m A = RA b m A') (h : TX T b m f A') : TX T0 b m f A := by
  rcases h with h | ⟨T', B, h1, h2, h3, h4, h5, h6⟩
  · exact Or.inl (MFt_s g hR h)
  · exact Or.inr ⟨T', B, MF_trans g h1, h2, hR.trans h3, h4, h5, h6⟩
theorem v_r20 {n : Nat} (hn : n < 16) : ∀ d f fu (T : gk_S), Sh T → f + d = 6 → d < fu → (∀ j, j < f → xJ T 358 (6 * (64 + n) + j) = lN 0 ∧ xJ T 359 (6 * (64 + n) + j) = lN (tp j)) → ∃ T1, f_X12_rule_20 F fu 352 (nI (64 + n)) (nI f) T = (qc (f_X12_next F T1 352) fun _ S31 => f_X12_rule_65 F F 352 (nI (64 + n)) 0 S31) ∧ MF T T1 ∧ gI T1 = gI T ∧ xI T1 = xI T ∧ (∀ j, j < 6 → xJ T1 358 (6 * (64 + n) + j) = lN 0 ∧ xJ T1 359 (6 * (64 + n) + j) = lN (tp j)) ∧ ∀ a i, (a = 358 ∨ a = 359) → (i < 6 * (64 + n) ∨ 6 * (64 + n) + 6 ≤ i) → xJ T1 a i = xJ T a i := by
  intro d
  induction d with
  | zero =>
    intro f fu T h h1 h2 hj
    obtain ⟨fu, rfl⟩ : ∃ q, fu = q + 1 := ⟨fu - 1, by omega⟩
    rw [f_X12_rule_20, if_pos (show (6 : Int32) ≤ nI f from nI_le (a := 6) (by omega) (by omega)), z_i352 h, qk_true]
    exact ⟨T, rfl, MF_refl, rfl, rfl, fun j hj6 => hj j (by omega), fun _ _ _ _ => rfl⟩
  | succ d ih =>
    intro f fu T h h1 h2 hj
    obtain ⟨fu, rfl⟩ : ∃ q, fu = q + 1 := ⟨fu - 1, by omega⟩
    have hf : f < 6 := by omega
    have ex : (6 : Int32) * nI (64 + n) + nI f = nI (6 * (64 + n) + f) := by rw [show (6 : Int32) = nI 6 from rfl, pk_mul, nI_add]
    have hx : 6 * (64 + n) + f < 576 := by omega
    have h' := Sh_wJ h 358 (nI (6 * (64 + n) + f)) 0
    have h'' := Sh_wJ h' 359 (nI (6 * (64 + n) + f)) (lN (tp f))
    have p1 : ∀ j, j < f + 1 → xJ (wJ (wJ T 358 (nI (6 * (64 + n) + f)) 0) 359 (nI (6 * (64 + n) + f)) (lN (tp f))) 358 (6 * (64 + n) + j) = lN 0 ∧ xJ (wJ (wJ T 358 (nI (6 * (64 + n) + f)) 0) 359 (nI (6 * (64 + n) + f)) (lN (tp f))) 359 (6 * (64 + n) + j) = lN (tp j) := by
      intro j hj'
      rw [rw_ne _ _ _ _ (by decide), rw_eq _ _ (by omega), rw_eq _ _ (by omega), rw_ne _ _ _ _ (by decide)]
      by_cases c : j = f
      · rw [if_pos (by omega), if_pos (by omega), c]; exact ⟨rfl, rfl⟩
      · rw [if_neg (by omega), if_neg (by omega)]; exact hj j (by omega)
    rw [f_X12_rule_20, if_neg (show ¬ (6 : Int32) ≤ nI f from nI_ge (b := 6) hf (by omega)), z_i352 h, qk_true, z_p909_352 h, qP_some', z_i358 h, qk_true, ex, z_l358 h, inb_n hx (by omega), qk_true, qv_eq, z_p910_352 h', qP_some', m_most hf, qc_some', z_i359 h', qk_true, z_l359 h', inb_n hx (by omega), qk_true, qv_eq, nI_1]
    obtain ⟨T1, r1, r2, r3, r4, r5, r6⟩ := ih (f + 1) fu _ h'' (by omega) (by omega) p1
    refine ⟨T1, r1, MF_trans (MF_wJ (MF_wJ MF_refl (Or.inl rfl) (by omega) (by omega) _) (Or.inr rfl) (by omega) (by omega) _) r2, r3, r4, r5, fun a i ha hi => (r6 a i ha hi).trans ?_⟩
    rcases ha with rfl | rfl
    · rw [rw_ne _ _ _ _ (by decide), rw_eq _ _ (by omega), if_neg (by omega)]
    · rw [rw_eq _ _ (by omega), if_neg (by omega), rw_ne _ _ _ _ (by decide)]
theorem v_ruleM (hF : 16400 ≤ F) (h : MA T b m A) (hA : WA m A) (h0 : A.w ≠ 0) (hw : wk b (tk b m A.o) < 3) (hn : A.L.n < 16) (tq : tak (tk b m A.o).1 (tk b m A.o).2.1 (wk b (tk b m A.o)) (tk b m A.o).2.2.2 A = .inr (5, (tk b m A.o).2.2.2, 0, A.t, A.f, upR A.L (wR (wk b (tk b m A.o))))) : MO2 T b m (f_X12_rule F T 352 (nI (64 + A.L.n))) A := by
  have v := MA_v h hA
  obtain ⟨v1, v2, v3⟩ := v_wv v rfl (by omega)
  have e4 := (v.2.2.1 (by omega)).2.2.1 (by omega)
  obtain ⟨s1, s2, s3, s4⟩ := st_go hA h0 (by omega) (by omega) tq (by show 5 ≠ 0; decide)
  obtain ⟨A1, hA1⟩ : ∃ B : AS, B = (5, (tk b m A.o).2.2.2, 0, A.t, A.f, upR A.L (wR (wk b (tk b m A.o)))) := ⟨_, rfl⟩
  rw [← hA1] at s1 s2 s3 s4
  have en : A1.L.n = A.L.n := by rw [hA1]; rfl
  have h1 := MD_wI h.1 (a := 356) (by omega) (nI (64 + A.L.n)) (nI (wk b (tk b m A.o)))
  have h2 := MD_wI h1 (a := 357) (by omega) (nI (64 + A.L.n)) 15
  have f2 : MF T (wI (wI T 356 (nI (64 + A.L.n)) (nI (wk b (tk b m A.o)))) 357 (nI (64 + A.L.n)) 15) := MF_wI (MF_wI MF_refl (by omega) (by omega) _) (by omega) (by omega) _
  have x6 : ∀ i, xI (wI (wI T 356 (nI (64 + A.L.n)) (nI (wk b (tk b m A.o)))) 357 (nI (64 + A.L.n)) 15) 356 i = if i = 64 + A.L.n then nI (wk b (tk b m A.o)) else xI T 356 i := fun i => by rw [ri_ne _ _ _ _ (by decide), ri_eq _ _ (by omega)]
  have x7 : ∀ i, xI (wI (wI T 356 (nI (64 + A.L.n)) (nI (wk b (tk b m A.o)))) 357 (nI (64 + A.L.n)) 15) 357 i = if i = 64 + A.L.n then 15 else xI T 357 i := fun i => by rw [ri_eq _ _ (by omega), ri_ne _ _ _ _ (by decide)]
  have x4 : xI (wI (wI T 356 (nI (64 + A.L.n)) (nI (wk b (tk b m A.o)))) 357 (nI (64 + A.L.n)) 15) 354 = xI T 354 := by rw [ri_ne _ _ _ _ (by decide), ri_ne _ _ _ _ (by decide)]
  have x5 : xI (wI (wI T 356 (nI (64 + A.L.n)) (nI (wk b (tk b m A.o)))) 357 (nI (64 + A.L.n)) 15) 355 = xI T 355 := by rw [ri_ne _ _ _ _ (by decide), ri_ne _ _ _ _ (by decide)]
  have gg4 : gI (wI (wI T 356 (nI (64 + A.L.n)) (nI (wk b (tk b m A.o)))) 357 (nI (64 + A.L.n)) 15) 904 352 = nI (tk b m A.o).2.2.2 := e4
  have xj : xJ (wI (wI T 356 (nI (64 + A.L.n)) (nI (wk b (tk b m A.o)))) 357 (nI (64 + A.L.n)) 15) = xJ T := rfl
  unfold f_X12_rule
  rw [z_i352 h.1.1, qk_true, z_p907_352 h.1.1, qP_some', qv_eq, v1, z_i356 h.1.1, qk_true, z_l356 h.1.1, inb_n (show 64 + A.L.n < 96 by omega) (by omega), qk_true, qv_eq, z_p908_352 h1.1, qP_some', z_i357 h1.1, qk_true, z_l357 h1.1, inb_n (show 64 + A.L.n < 96 by omega) (by omega), qk_true, qv_eq]
  generalize wI (wI T 356 (nI (64 + A.L.n)) (nI (wk b (tk b m A.o)))) 357 (nI (64 + A.L.n)) 15 = T1 at h2 f2 x6 x7 x4 x5 gg4 xj
  obtain ⟨T2, r1, r2, r3, r4, r5, r6⟩ := v_r20 (F := F) hn 6 0 F T1 h2.1 (by omega) (by omega) (fun j hj => by omega)
  have h3 := MF_MD r2 h2
  have hl : ML4 T2 A1.L (5 ≤ A1.w) := by
    rw [hA1]
    refine ML4_up h.2.2 (by rw [r4, x4]) (by rw [r4, x5]) (fun a i ha hi => ?_) (fun a i ha hi => by rw [r6 a i ha hi, xj]) ⟨?_, ?_, ?_⟩ _
    · rw [r4]
      rcases ha with rfl | rfl
      · rw [x6, if_neg hi]
      · rw [x7, if_neg hi]
    · rw [r4, x6, if_pos rfl]; rfl
    · rw [r4, x7, if_pos rfl]; rfl
    · exact r5
  obtain ⟨T3, n1, n2, n3⟩ := v_adv (F := F) (A := A1) hF h3 (by rw [r3, gg4, s3]) s1.1 hl
  rw [show (0 : Int32) = nI 0 from rfl, r1, n1, qc_some']
  have hw1 : A1.w = 5 := by rw [hA1]
  have k := v_r65 (F := F) hF (m + 1) F T3 A1 n3 s1 (by omega) (by omega) (tak_5 hw1) (by omega) (by have := h.1.2.2.1; omega)
  rw [en, show A1.n = 0 by rw [hA1]] at k
  exact MO2_s (MF_trans f2 (MF_trans r2 n2)) s4 en (by omega) k
theorem v_t63 (hF : 16400 ≤ F) : ∀ d fu (T : gk_S) (A : AS), MA T b m A → WA m A → A.w ≠ 0 → tak (tk b m A.o).1 (tk b m A.o).2.1 (wk b (tk b m A.o)) (tk b m A.o).2.2.2 A = tRule (tk b m A.o).1 (wk b (tk b m A.o)) (tk b m A.o).2.2.2 A → m + 1 - A.o ≤ d → d < fu → TX T b m (f_X12_text_63 F fu 352 T) A := by
  intro d
  induction d with
  | zero => intro fu T A h hA h0 tq h1 h2; have := hA.1; omega
  | succ d ih =>
    intro fu T A h hA h0 tq h1 h2
    obtain ⟨fu, rfl⟩ : ∃ q, fu = q + 1 := ⟨fu - 1, by omega⟩
    have m2 := h.1.2.2.1
    have v := MA_v h hA
    have n16 := hA.2.2.1
    unfold tRule at tq
    have r77 : (tk b m A.o).1 ≠ 0 → TX T b m (f_X12_text_77 F (f_X12_text_63 F fu) 352 T) A := by
      intro k0
      rw [if_neg k0] at tq
      have an : aI T 355 4 = nI A.L.n := h.2.2.1
      have z16 : nI A.L.n = 16 ↔ A.L.n = 16 := nI_eq (b := 16) (by omega) (by omega)
      unfold f_X12_text_77
      rw [z_i352 h.1.1, qk_true, v_isAct h.1.1 v, qc_some']
      by_cases acc : wk b (tk b m A.o) < 3
      · rw [if_pos acc] at tq
        have t1 := wk_1 b _ (show wk b (tk b m A.o) < 18 by omega)
        rw [decide_eq_true acc, if_neg (show ¬ bI true = 0 by decide), z_i352 h.1.1, qk_true, z_p906_352 h.1.1, qP_some', z_i355 h.1.1, qk_true, z_l355 h.1.1, show inb 4 6 = true from rfl, qk_true, qv_eq, an]
        by_cases c16 : A.L.n = 16
        · rw [if_neg (show ¬ A.L.n < 16 by omega)] at tq
          rw [if_pos (z16.mpr c16)]
          exact Or.inl (MFt_w (v_wrongF (κ := 4) h.1.1 hA h0 m2 v (by omega) (by omega) (by omega) (by omega) tq))
        · rw [if_pos (show A.L.n < 16 by omega)] at tq
          have k := v_ruleM (F := F) hF h hA h0 acc (by omega) tq
          rw [if_neg (fun q => c16 (z16.mp q)), qP_some', z_i355 h.1.1, qk_true, z_l355 h.1.1, show inb 4 6 = true from rfl, qk_true, qv_eq, an, show (64 : Int32) + nI A.L.n = nI (64 + A.L.n) from nI_add 64 _]
          rcases k with ⟨T', f1, κ, pl, q1, q2, q3, q4, q5, q6⟩ | ⟨T', B, L, q1, q2, q3, q4, q5, q6, q7, q8, q9, q10, q11⟩
          · exact Or.inl ⟨T', f1, κ, pl, q1, q2, q3, q4, by rw [q5, qc_some', if_pos rfl], q6⟩
          · have an2 : aI T' 355 4 = nI L.n := q9.1
            have hT2 : MD (wI T' 355 4 (nI (L.n + 1))) b m := MD_wI q3 (by omega) _ _
            have hl2 : ML4 (wI T' 355 4 (nI (L.n + 1))) B.L (5 ≤ B.w) := by
              obtain ⟨y1, y2, y3, y4⟩ := q9
              rw [q10]
              have e : ∀ i, i < L.n + 1 → MR T' (64 + i) (L.r i) := by
                intro i hi
                by_cases c : i < L.n
                · exact y3 i c
                · have : i = L.n := by omega
                  rw [this]; exact y4 trivial
              have mr : ∀ i ρ, MR T' (64 + i) ρ → MR (wI T' 355 4 (nI (L.n + 1))) (64 + i) ρ := by
                intro i ρ r
                refine ⟨?_, ?_, r.2.2⟩
                · rw [ri_ne _ _ _ _ (by decide)]; exact r.1
                · rw [ri_ne _ _ _ _ (by decide)]; exact r.2.1
              refine ⟨?_, ?_, fun i hi => mr i _ (e i hi), fun q => absurd q (by omega)⟩
              · exact (ri_eq T' 355 (i := 4) (by omega) _ 4).trans (if_pos rfl)
              · rw [ri_ne _ _ _ _ (by decide)]; exact y2
            have hM : MA (wI T' 355 4 (nI (L.n + 1))) b m B := ⟨hT2, q4, hl2⟩
            have f2 : MF T (wI T' 355 4 (nI (L.n + 1))) := MF_wI (i := 4) q1 (by omega) (by omega) _
            rw [q2, qc_some', if_neg one_ne, z_i352 q3.1, qk_true, z_p906_352 q3.1, qP_some', z_i355 q3.1, qk_true, z_l355 q3.1, show inb 4 6 = true from rfl, qk_true, qv_eq, an2, qk_true, nI_1, qv_eq]
            exact TX_s f2 q6 (ih fu _ B hM q5 (by omega) (tak_4 q7) (by have := q5.1; omega) (by omega))
      · rw [if_neg acc] at tq
        rw [decide_eq_false acc, if_pos (show bI false = 0 from rfl), z_i352 h.1.1, qk_true]
        exact Or.inl (MFt_w (v_cant h.1.1 hA h0 m2 v (fun _ _ => tq)))
    rw [f_X12_text_63, z_i352 h.1.1, qk_true, qv_eq, v.2.1]
    by_cases c0 : (tok b m (wsE b m A.o)).1 = 0
    · rw [if_pos ((zk0 v).mpr c0), v.2.2.2.2.2 F, qc_some']
      by_cases l : (tk b m A.o).1 = 6
      · rw [decide_eq_true l, if_neg (show ¬ bI true = 0 by decide)]
        exact r77 (by omega)
      · have k0 : (tk b m A.o).1 = 0 := by have := (v.2.2.1 l).1; omega
        rw [if_pos k0] at tq
        rw [decide_eq_false l, if_pos (show bI false = 0 from rfl)]
        have st := st_acc (by omega) l tq
        obtain ⟨w1, -⟩ := stA_W hA h0 st
        exact Or.inr ⟨T, _, MF_refl, rfl, RA_0 hA h0 st rfl, rfl, w1, ML4_c h.2.2 (fun q => q.elim) ⟨rfl, rfl, rfl, rfl, rfl, rfl⟩⟩
    · rw [if_neg (fun q => c0 ((zk0 v).mp q))]
      refine r77 (fun q => ?_)
      have := v.2.2.1 (by omega)
      omega
end MTXT
