/-! the model's tests of tokens -/
theorem wv_eq {w x : Nat} (hw : w ≤ 18) (hx : x < 18) : wval w 18 = nI x ↔ w = x := by
  unfold wval
  by_cases c : w < 18
  · rw [if_pos c]; exact nI_eq (by omega) (by omega)
  · rw [if_neg c]; exact ⟨fun e => absurd e.symm (nI_m1 x (by omega)), fun e => by omega⟩
theorem m1_lt : ∀ c, c < 19 → (-1 : Int32) < nI c := by decide +kernel
theorem wv_lt {w c : Nat} (hw : w ≤ 18) (hc : c ≤ 18) : wval w 18 < nI c ↔ w < c ∨ w = 18 := by
  unfold wval
  by_cases q : w < 18
  · rw [if_pos q, nI_ltI (by omega) (by omega)]; omega
  · rw [if_neg q]; exact ⟨fun _ => Or.inr (by omega), fun _ => m1_lt c (by omega)⟩
theorem wv_gt {w c : Nat} (hw : w ≤ 18) (hc : c < 18) : nI c < wval w 18 ↔ c < w ∧ w < 18 := by
  unfold wval
  by_cases q : w < 18
  · rw [if_pos q, nI_ltI (by omega) (by omega)]; omega
  · rw [if_neg q]
    constructor
    · intro e
      have := m1_lt c (by omega)
      exact absurd e (Int32.not_lt.mpr (Int32.le_of_lt this))
    · intro e; omega
theorem wk_18 (b : Nat → Nat) {t : Nat × Nat × Nat × Nat} (h : t.1 ≠ 1) : wk b t = 18 := by unfold wk; rw [if_neg h]
theorem wk_le (b : Nat → Nat) (t : Nat × Nat × Nat × Nat) : wk b t ≤ 18 := by
  unfold wk
  split
  · exact wix_le _
  · omega
section MTT
variable {S T : gk_S} {F m k : Nat} {b : Nat → Nat} {t : Nat × Nat × Nat × Nat}
theorem zk0 (v : MV T b t k) : nI k = 0 ↔ k = 0 := nI_eq (b := 0) (by have := v.1; omega) (by omega)
theorem zk1 (v : MV T b t k) : nI k = 1 ↔ k = 1 := nI_eq (b := 1) (by have := v.1; omega) (by omega)
theorem zk2 (v : MV T b t k) : nI k = 2 ↔ k = 2 := nI_eq (b := 2) (by have := v.1; omega) (by omega)
theorem zk3 (v : MV T b t k) : nI k = 3 ↔ k = 3 := nI_eq (b := 3) (by have := v.1; omega) (by omega)
theorem zk4 (v : MV T b t k) : nI k = 4 ↔ k = 4 := nI_eq (b := 4) (by have := v.1; omega) (by omega)
theorem zk5 (v : MV T b t k) : nI k = 5 ↔ k = 5 := nI_eq (b := 5) (by have := v.1; omega) (by omega)
/-- the word that the model's fields show -/
theorem MV_w (v : MV T b t k) : (k = 1 ∧ ∃ w, w ≤ 18 ∧ gI T 916 352 = wval w 18 ∧ (t.1 ≠ 6 → wk b t = w) ∧ (t.1 = 6 → wk b t = 18)) ∨ (k ≠ 1 ∧ wk b t = 18) := by
  by_cases c : k = 1
  · obtain ⟨w, w1, w2, w3⟩ := v.2.2.2.2.1 c
    exact Or.inl ⟨c, w, w1, w2, w3, fun q => wk_18 b (by omega)⟩
  · refine Or.inr ⟨c, wk_18 b (fun q => ?_)⟩
    have := v.2.2.1 (by omega)
    omega
theorem v_isWord (h : Sh T) (v : MV T b t k) {x : Nat} (hx : x < 18) : f_X12_isWord F T 352 (nI x) = some (bI (decide (wk b t = x)), T) := by
  unfold f_X12_isWord
  rw [z_i352 h, qk_true, qv_eq, v.2.1]
  rcases MV_w v with ⟨c, w, w1, w2, w3, w4⟩ | ⟨c, w1⟩
  · have zw := wv_eq w1 hx
    rw [if_pos ((zk1 v).mpr c), qv_eq, w2]
    by_cases e : w = x
    · rw [if_pos (zw.mpr e), v.2.2.2.2.2 F, qc_some']
      by_cases l : t.1 = 6
      · rw [decide_eq_true l, if_neg (show ¬ bI true = 0 by decide), w4 l, decide_eq_false (by omega)]; rfl
      · rw [decide_eq_false l, if_pos (show bI false = 0 from rfl), w3 l, decide_eq_true e]; rfl
    · rw [if_neg (fun q => e (zw.mp q)), decide_eq_false]
      · rfl
      · intro q
        by_cases l : t.1 = 6
        · rw [w4 l] at q; omega
        · rw [w3 l] at q; exact e q
  · rw [if_neg (fun q => c ((zk1 v).mp q)), w1, decide_eq_false (by omega)]; rfl
theorem v_isSign (h : Sh T) (v : MV T b t k) {x : Nat} (hx : x < 256) : f_X12_isSign F T 352 (nI x) = some (bI (decide (t.1 = 4 ∧ t.2.1 = x)), T) := by
  unfold f_X12_isSign
  rw [z_i352 h, qk_true, qv_eq, v.2.1]
  by_cases c : k = 4
  · obtain ⟨u, u1, u2, u3⟩ := v.2.2.2.1 c
    have zu : nI u = nI x ↔ u = x := nI_eq (by omega) (by omega)
    rw [if_pos ((zk4 v).mpr c), qv_eq, u2]
    by_cases l : t.1 = 6
    · rw [decide_eq_false (show ¬ (t.1 = 4 ∧ t.2.1 = x) by omega)]
      by_cases e : u = x
      · rw [if_pos (zu.mpr e), v.2.2.2.2.2 F, qc_some', decide_eq_true l, if_neg (show ¬ bI true = 0 by decide)]; rfl
      · rw [if_neg (fun q => e (zu.mp q))]; rfl
    · obtain ⟨l1, -⟩ := v.2.2.1 l
      have t4 : t.1 = 4 := by omega
      have tv := u3 l
      by_cases e : u = x
      · rw [if_pos (zu.mpr e), v.2.2.2.2.2 F, qc_some', decide_eq_false l, if_pos (show bI false = 0 from rfl), decide_eq_true (show t.1 = 4 ∧ t.2.1 = x from ⟨t4, by omega⟩)]; rfl
      · rw [if_neg (fun q => e (zu.mp q)), decide_eq_false (show ¬ (t.1 = 4 ∧ t.2.1 = x) by omega)]; rfl
  · rw [if_neg (fun q => c ((zk4 v).mp q)), decide_eq_false]
    · rfl
    · intro q
      have := v.2.2.1 (by omega)
      omega
theorem v_isAct (h : Sh T) (v : MV T b t k) : f_X12_isAction F T 352 = some (bI (decide (wk b t < 3)), T) := by
  unfold f_X12_isAction
  rw [z_i352 h, qk_true, qv_eq, v.2.1]
  rcases MV_w v with ⟨c, w, w1, w2, w3, w4⟩ | ⟨c, w1⟩
  · have z0 : wval w 18 < 0 ↔ w < 0 ∨ w = 18 := wv_lt (c := 0) w1 (by omega)
    have z3 : 3 ≤ wval w 18 ↔ ¬ (w < 3 ∨ w = 18) := by
      rw [← Int32.not_lt]
      exact not_congr (wv_lt (c := 3) w1 (by omega))
    rw [if_pos ((zk1 v).mpr c), qv_eq, w2]
    by_cases q0 : w = 18
    · rw [if_pos (z0.mpr (Or.inr q0)), decide_eq_false]
      · rfl
      · intro q
        by_cases l : t.1 = 6
        · rw [w4 l] at q; omega
        · rw [w3 l] at q; omega
    rw [if_neg (fun q => by have := z0.mp q; omega), qv_eq]
    by_cases q3 : w < 3
    · rw [if_neg (fun q => z3.mp q (Or.inl q3)), v.2.2.2.2.2 F, qc_some']
      by_cases l : t.1 = 6
      · rw [decide_eq_true l, if_neg (show ¬ bI true = 0 by decide), w4 l, decide_eq_false (by omega)]; rfl
      · rw [decide_eq_false l, if_pos (show bI false = 0 from rfl), w3 l, decide_eq_true q3]; rfl
    · rw [if_pos (z3.mpr (by omega)), decide_eq_false]
      · rfl
      · intro q
        by_cases l : t.1 = 6
        · rw [w4 l] at q; omega
        · rw [w3 l] at q; omega
  · rw [if_neg (fun q => c ((zk1 v).mp q)), w1, decide_eq_false (by omega)]; rfl
/-- the value of a word that isn't late -/
theorem v_wv (v : MV T b t k) {x : Nat} (h : wk b t = x) (hx : x < 18) : gI T 916 352 = nI x ∧ k = 1 ∧ t.1 = 1 := by
  have t1 := wk_1 b t (by omega)
  obtain ⟨l1, -, -, l4, -⟩ := v.2.2.1 (by omega)
  refine ⟨?_, by omega, t1⟩
  rw [l4 t1, h]
  unfold wval
  rw [if_pos hx]
/-- what is wrong with it -/
theorem v_wrong (h : Sh T) {pl : Nat} (e : gI T 915 352 = nI pl) (κ : Int32) : f_X12_wrong F T 352 κ = some (0, sI (sI T 918 352 κ) 919 352 (nI pl)) := by
  unfold f_X12_wrong
  rw [z_i352 h, qk_true, qv_eq, qv_eq, rd_ne _ _ (Or.inl (by decide)), e, qv_eq]
end MTT
/-- what a piece of the model's reading comes to -/
def MFt (T : gk_S) (b : Nat → Nat) (m : Nat) (f : Option (Int32 × gk_S)) (A : AS) : Prop := ∃ T', MG T T' ∧ ∃ κ pl, RA b m A = .inl (κ, pl) ∧ 1 ≤ κ ∧ κ < 5 ∧ pl ≤ 2100 ∧ f = some (0, T') ∧ gI T' 918 352 = nI κ ∧ gI T' 919 352 = nI pl
def MO (T : gk_S) (b : Nat → Nat) (m : Nat) (f : Option (Int32 × gk_S)) (A : AS) (P : AS → Prop) : Prop := MFt T b m f A ∨ ∃ T' A', MF T T' ∧ f = some (1, T') ∧ MA T' b m A' ∧ WA m A' ∧ RA b m A = RA b m A' ∧ P A'
section MFL
variable {S T : gk_S} {F m k : Nat} {b : Nat → Nat} {A A' : AS}
theorem tkA_i {κ : Nat} (e : tkA b (tk b m A.o) A = .inl κ) : stA b m A = .inl (κ, (tk b m A.o).2.2.1) := by
  unfold stA
  rw [e]
theorem tkA_r (e : tkA b (tk b m A.o) A = .inr A') : stA b m A = .inr A' := by
  unfold stA
  rw [e]
theorem st_acc (e5 : (tk b m A.o).1 ≠ 5) (e6 : (tk b m A.o).1 ≠ 6) (e : tak (tk b m A.o).1 (tk b m A.o).2.1 (wk b (tk b m A.o)) (tk b m A.o).2.2.2 A = .inr A') : stA b m A = .inr A' := by
  have : tkA b (tk b m A.o) A = .inr A' := by unfold tkA; rw [if_neg e5, if_neg e6, e]
  exact tkA_r this
theorem st_flt {κ : Nat} (e5 : (tk b m A.o).1 ≠ 5) (e6 : (tk b m A.o).1 ≠ 6) (e : tak (tk b m A.o).1 (tk b m A.o).2.1 (wk b (tk b m A.o)) (tk b m A.o).2.2.2 A = .inl κ) : stA b m A = .inl (κ, (tk b m A.o).2.2.1) := by
  have : tkA b (tk b m A.o) A = .inl κ := by unfold tkA; rw [if_neg e5, if_neg e6, e]
  exact tkA_i this
/-- a step that is taken -/
theorem st_go (hA : WA m A) (h0 : A.w ≠ 0) (e5 : (tk b m A.o).1 ≠ 5) (e6 : (tk b m A.o).1 ≠ 6) (e : tak (tk b m A.o).1 (tk b m A.o).2.1 (wk b (tk b m A.o)) (tk b m A.o).2.2.2 A = .inr A') (h : A'.w ≠ 0) : WA m A' ∧ A.o < A'.o ∧ A'.o = (tk b m A.o).2.2.2 ∧ RA b m A = RA b m A' := by
  have st := st_acc e5 e6 e
  obtain ⟨w1, w2⟩ := stA_W hA h0 st
  have t := tk_ok b hA.1
  obtain ⟨-, w3, -⟩ := tak_W hA h0 (t.2.2.1 (by have := t.1; omega)).2 (wk_1 b _) e
  exact ⟨w1, w2.resolve_left h, w3, RA_s hA h0 st h⟩
theorem v_wrongF (h : Sh T) (hA : WA m A) (h0 : A.w ≠ 0) (hm : m ≤ 2100) (v : MV T b (tk b m A.o) k) {κ : Nat} (k1 : 1 ≤ κ) (k5 : κ < 5) (e5 : (tk b m A.o).1 ≠ 5) (e6 : (tk b m A.o).1 ≠ 6) (e : tak (tk b m A.o).1 (tk b m A.o).2.1 (wk b (tk b m A.o)) (tk b m A.o).2.2.2 A = .inl κ) : MFt T b m (f_X12_wrong F T 352 (nI κ)) A := by
  have t := tk_ok b hA.1
  refine ⟨sI (sI T 918 352 (nI κ)) 919 352 (nI (tk b m A.o).2.2.1), ⟨T, MF_refl, Fr_sI (Fr_sI Fr_refl (by decide) _ _) (by decide) _ _⟩, κ, _, RA_f hA h0 (st_flt e5 e6 e), k1, k5, by omega, v_wrong h (v.2.2.1 e6).2.1 _, ?_, rd_eq _ _ _ _⟩
  rw [rd_ne _ _ (Or.inl (by decide))]; exact rd_eq _ _ _ _
theorem v_cant (h : Sh T) (hA : WA m A) (h0 : A.w ≠ 0) (hm : m ≤ 2100) (v : MV T b (tk b m A.o) k) (e : (tk b m A.o).1 ≠ 5 → (tk b m A.o).1 ≠ 6 → tak (tk b m A.o).1 (tk b m A.o).2.1 (wk b (tk b m A.o)) (tk b m A.o).2.2.2 A = .inl 2) : MFt T b m (f_X12_cant F T 352) A := by
  have t := tk_ok b hA.1
  have fin : ∀ κ : Nat, 1 ≤ κ → κ < 5 → stA b m A = .inl (κ, (tk b m A.o).2.2.1) → gI T 915 352 = nI (tk b m A.o).2.2.1 → MFt T b m (qk (isb T 352 9) <| qc (f_X12_wrong F T 352 (nI κ)) fun x29 S30 => qk (zb x29) <| some (x29, S30)) A := by
    intro κ k1 k5 st e15
    refine ⟨sI (sI T 918 352 (nI κ)) 919 352 (nI (tk b m A.o).2.2.1), ⟨T, MF_refl, Fr_sI (Fr_sI Fr_refl (by decide) _ _) (by decide) _ _⟩, κ, _, RA_f hA h0 st, k1, k5, by omega, ?_, ?_, rd_eq _ _ _ _⟩
    · rw [z_i352 h, qk_true, v_wrong h e15, qc_some', show zb 0 = true from rfl, qk_true]
    · rw [rd_ne _ _ (Or.inl (by decide))]; exact rd_eq _ _ _ _
  unfold f_X12_cant f_X12_cant_21
  rw [z_i352 h, qk_true, v.2.2.2.2.2 F, qc_some']
  by_cases l : (tk b m A.o).1 = 6
  · have st : stA b m A = .inl (4, (tk b m A.o).2.2.1) := by
      have : tkA b (tk b m A.o) A = .inl 4 := by unfold tkA; rw [if_neg (by omega), if_pos l]
      exact tkA_i this
    have pl : (tk b m A.o).2.2.1 = 2000 := by
      unfold tk at l ⊢
      by_cases c : 2000 ≤ wsE b m A.o ∧ 2000 < m
      · rw [if_pos c]
      · rw [if_neg c] at l
        have l' : (tok b m (wsE b m A.o)).1 = 6 := l
        rcases tok_ok b m (wsE b m A.o) with ⟨a, _⟩ | ⟨a1, a2, a3, ⟨a, -⟩ | ⟨a, v⟩ | ⟨a, v⟩ | ⟨a, v⟩ | a⟩ <;> omega
    rw [pl] at st
    rw [decide_eq_true l, if_neg (show ¬ bI true = 0 by decide), z_i352 h, qk_true, qv_eq]
    have h2 := Sh_sI h 915 352 2000
    refine ⟨sI (sI (sI T 915 352 2000) 918 352 (nI 4)) 919 352 (nI 2000), ⟨T, MF_refl, Fr_sI (Fr_sI (Fr_sI Fr_refl (by decide) _ _) (by decide) _ _) (by decide) _ _⟩, 4, 2000, RA_f hA h0 st, by omega, by omega, by omega, ?_, ?_, rd_eq _ _ _ _⟩
    · rw [v_wrong h2 (pl := 2000) (rd_eq _ _ _ _), qc_some', show zb 0 = true from rfl, qk_true]
      rfl
    · rw [rd_ne _ _ (Or.inl (by decide))]; exact rd_eq _ _ _ _
  · obtain ⟨l1, l2, -⟩ := v.2.2.1 l
    rw [decide_eq_false l, if_pos (show bI false = 0 from rfl), z_i352 h, qk_true, qv_eq, v.2.1]
    by_cases c5 : k = 5
    · rw [if_pos ((zk5 v).mpr c5)]
      have st : stA b m A = .inl (1, (tk b m A.o).2.2.1) := by
        have : tkA b (tk b m A.o) A = .inl 1 := by unfold tkA; rw [if_pos (by omega)]
        exact tkA_i this
      have r := fin 1 (by omega) (by omega) st l2
      rw [z_i352 h] at r
      exact r
    · rw [if_neg (fun q => c5 ((zk5 v).mp q))]
      have r := fin 2 (by omega) (by omega) (st_flt (by omega) l (e (by omega) l)) l2
      rw [z_i352 h] at r
      exact r
/-- wrapped -/
theorem MFt_w {f : Option (Int32 × gk_S)} (h : MFt T b m f A) : MFt T b m (qc f fun x S => qk (zb x) <| some (x, S)) A := by
  obtain ⟨T', f1, κ, pl, e1, e2, e3, e4, e5, e6⟩ := h
  exact ⟨T', f1, κ, pl, e1, e2, e3, e4, by rw [e5, qc_some', show zb 0 = true from rfl, qk_true], e6⟩
theorem MFt_s {T0 : gk_S} {f : Option (Int32 × gk_S)} (g : MF T0 T) (hR : RA b m A = RA b m A') (h : MFt T b m f A') : MFt T0 b m f A := by
  obtain ⟨T', f1, κ, pl, e1, e2⟩ := h
  exact ⟨T', MG_s g f1, κ, pl, hR.trans e1, e2⟩
theorem MO_s {T0 : gk_S} {f : Option (Int32 × gk_S)} {P Q : AS → Prop} (g : MF T0 T) (hR : RA b m A = RA b m A') (h : MO T b m f A' P) (pq : ∀ B, P B → Q B) : MO T0 b m f A Q := by
  rcases h with h | ⟨T', B, h1, h2, h3, h4, h5, h6⟩
  · exact Or.inl (MFt_s g hR h)
  · exact Or.inr ⟨T', B, MF_trans g h1, h2, h3, h4, hR.trans h5, pq B h6⟩
theorem ML4_up {T1 : gk_S} {L : AL} {q : Prop} {ρ : AR} (h : ML4 T L q) (e4 : xI T1 354 = xI T 354) (e5 : xI T1 355 = xI T 355) (e1 : ∀ a i, (a = 356 ∨ a = 357) → i ≠ 64 + L.n → xI T1 a i = xI T a i) (e2 : ∀ a i, (a = 358 ∨ a = 359) → (i < 6 * (64 + L.n) ∨ 6 * (64 + L.n) + 6 ≤ i) → xJ T1 a i = xJ T a i) (e3 : MR T1 (64 + L.n) ρ) (q' : Prop) : ML4 T1 (upR L ρ) q' := by
  obtain ⟨h1, h2, h3, h4⟩ := h
  refine ⟨by rw [e5]; exact h1, by rw [e4]; exact h2, fun i hi => ?_, fun _ => ?_⟩
  · have hi' : i < L.n := hi
    rw [up_lt _ _ hi']
    obtain ⟨m1, m2, m3⟩ := h3 i hi'
    exact ⟨(e1 _ _ (Or.inl rfl) (by omega)).trans m1, (e1 _ _ (Or.inr rfl) (by omega)).trans m2, fun f hf => ⟨(e2 _ _ (Or.inl rfl) (by omega)).trans (m3 f hf).1, (e2 _ _ (Or.inr rfl) (by omega)).trans (m3 f hf).2⟩⟩
  · show MR T1 (64 + L.n) ((upR L ρ).r L.n)
    rw [up_eq]
    exact e3
end MFL
