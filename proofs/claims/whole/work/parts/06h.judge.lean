def jrl (C : Nat → Nat → Nat) (n : Nat) (p2 : Nat → Nat) (tl : Bool) : Bool := tl && decide (plc C p2 n 0 < n)
def jpl (C : Nat → Nat → Nat) (n : Nat) (p : Nat → Nat) (rel : Bool) : Nat := if rel = true then n else plc C p n 0
theorem k_j34 {S : gk_S} (h : Sh S) {F n : Nat} (hF : 16400 ≤ F) {Q : Nat → Nat} {C : Nat → Nat → Nat} {p : Nat → Nat} (ct : CT S Q C n) (pk : PK S 345 p) (rel : Bool) : f_X11_judge_34 F 0 (bI rel) S = f_X11_judge_75 F 0 (ix (jpl C n p rel) n) (nI (jst C p (jpl C n p rel) n rel)) S := by
  have n64 := ct.1
  unfold jpl jst
  cases rel
  · simp only [f_X11_judge_34, b_f, if_true, qk_true, qk_false, qv_eq, qP_some', qP_none, qc_some', qc_none, qx_inl', qx_inr', qh_inl', qh_inr', z_i0 h, z_p805_0 h, z_p806_0 h, z_i279 h, k_place h hF ct pk, f_X11_judge_54, Bool.false_eq_true, if_false]
    by_cases q : plc C p n 0 < n
    · simp only [ix_in q, k_state1 h ct pk q, qk_true, qk_false, qv_eq, qP_some', qP_none, qc_some', qc_none, qx_inl', qx_inr', qh_inl', qh_inr', if_pos q]
    · simp only [ix_out q, k_state0 pk, qk_true, qk_false, qv_eq, qP_some', qP_none, qc_some', qc_none, qx_inl', qx_inr', qh_inl', qh_inr', if_neg q]
  · simp only [f_X11_judge_34, b_t, one_ne, if_false, f_X11_judge_54, if_true, ix_out (Nat.lt_irrefl n)]
    rfl
theorem k_judge0 {S : gk_S} (h : Sh S) {F n : Nat} (hF : 16400 ≤ F) {Q : Nat → Nat} {C : Nat → Nat → Nat} {p p2 : Nat → Nat} (ct : CT S Q C n) (pk : PK S 345 p) (tl : Bool) (pk2 : tl = true → PK S 347 p2) : f_X11_judge F S 0 (bI tl) = f_X11_judge_75 F 0 (ix (jpl C n p (jrl C n p2 tl)) n) (nI (jst C p (jpl C n p (jrl C n p2 tl)) n (jrl C n p2 tl))) (sI S 813 0 (gI S 813 0 + 1)) := by
  have n64 := ct.1
  have H := Sh_sI h 813 0 (gI S 813 0 + 1)
  have ct' : CT (sI S 813 0 (gI S 813 0 + 1)) Q C n := ct
  have pk' : PK (sI S 813 0 (gI S 813 0 + 1)) 345 p := pk
  have j34 := fun rel => k_j34 (F := F) H hF ct' pk' rel
  cases tl
  · simp only [f_X11_judge, qk_true, qk_false, qv_eq, qP_some', qP_none, qc_some', qc_none, qx_inl', qx_inr', qh_inl', qh_inr', z_i0 h, b_f, if_true]
    exact j34 false
  · have p2' : PK (sI S 813 0 (gI S 813 0 + 1)) 347 p2 := pk2 rfl
    simp only [f_X11_judge, qk_true, qk_false, qv_eq, qP_some', qP_none, qc_some', qc_none, qx_inl', qx_inr', qh_inl', qh_inr', z_i0 h, b_t, one_ne, if_false, z_p805_0 H, z_p807_0 H, z_i279 H, k_place H hF ct' p2', ix_m1 (by omega : n < 2 ^ 31)]
    by_cases q : plc C p2 n 0 < n
    · rw [if_neg (not_not_intro q)]
      unfold jrl
      rw [decide_eq_true q]
      exact j34 true
    · rw [if_pos q]
      unfold jrl
      rw [decide_eq_false q]
      exact j34 false
/-! the model's steps -/
theorem wI_rI (S : gk_S) (a : Nat) (T : Nat → Int32) {j : Nat} (hj : j < 2 ^ 31) (v : Int32) : wI (rI S a T) a (nI j) v = rI S a (upd T j v) := by
  unfold wI
  rw [rI_rI, xI_rI, if_pos rfl, nI_clamp hj]
theorem wI_r0 (S : gk_S) (a : Nat) {j : Nat} (hj : j < 2 ^ 31) (v : Int32) : wI S a (nI j) v = rI S a (upd (xI S a) j v) := by
  unfold wI
  rw [nI_clamp hj]
/-- T is U but for row i, which holds c -/
def Row (T U : Nat → Int32) (i : Nat) (c : Nat → Nat) : Prop := (∀ j, j < 9 → T (9 * i + j) = nI (c j)) ∧ ∀ m, m < 9 * i ∨ 9 * i + 9 ≤ m → T m = U m
theorem Row_upd {T U : Nat → Int32} {i : Nat} {c : Nat → Nat} (h : Row T U i c) {j v : Nat} (hj : j < 9) : Row (upd T (9 * i + j) (nI v)) U i (fun m => if m = j then v else c m) := by
  refine ⟨fun m hm => ?_, fun m hm => ?_⟩
  · unfold upd
    by_cases e : m = j
    · rw [if_pos (show 9 * i + m = 9 * i + j by omega)]
      simp only [if_pos e]
    · rw [if_neg (show ¬ 9 * i + m = 9 * i + j by omega)]
      simp only [if_neg e]
      exact h.1 m hm
  · unfold upd
    rw [if_neg (by omega)]
    exact h.2 m hm
theorem Row_c {T U : Nat → Int32} {i : Nat} {c d : Nat → Nat} (h : Row T U i c) (e : ∀ j, j < 9 → c j = d j) : Row T U i d := ⟨fun j hj => by rw [← e j hj]; exact h.1 j hj, h.2⟩
section MST
variable {S : gk_S} {F i : Nat}
theorem rw_in (h : Sh S) (hi : i < 64) {j : Nat} (hj : j < 9) : inb (nI (9 * i + j)) (gL S 369) = true := by rw [z_l369 h]; exact inb_n (by omega) (by omega)
theorem rw_rd (T : Nat → Int32) (hi : i < 64) {j : Nat} (hj : j < 9) : aI (rI S 369 T) 369 (nI (9 * i + j)) = T (9 * i + j) := by
  unfold aI
  rw [nI_clamp (by omega), xI_rI, if_pos rfl]
theorem m_s121 (h : Sh S) (hi : i < 64) {tm : Nat} {c : Nat → Nat} {T U : Nat → Int32} (rw9 : Row T U i c) (g4 : gI S 934 352 = nI tm) (hp : c 0 < 256) (h5 : c 0 = 6 → 1 ≤ c 5 ∧ c 5 ≤ 7) (h6 : c 6 < 2) : ∃ T', f_X12_steps_121 F 352 (nI (9 * i)) (rI S 369 T) = some ((), rI S 369 T') ∧ Row T' U i (fun m => if m = 8 then tm + lf (c 0) (c 5) (c 6) else c m) := by
  refine ⟨upd T (9 * i + 8) (nI (tm + lf (c 0) (c 5) (c 6))), ?_, Row_upd rw9 (by omega)⟩
  have H := Sh_rI h 369 T
  have r0 := rw_rd (S := S) T hi (j := 0) (by omega)
  have r5 := rw_rd (S := S) T hi (j := 5) (by omega)
  have r6 := rw_rd (S := S) T hi (j := 6) (by omega)
  rw [rw9.1 0 (by omega), Nat.add_zero] at r0
  rw [rw9.1 5 (by omega)] at r5
  rw [rw9.1 6 (by omega)] at r6
  have i0 := rw_in H hi (j := 0) (by omega)
  rw [Nat.add_zero] at i0
  have g4' : gI (rI S 369 T) 934 352 = nI tm := g4
  have l1 := m_lasts (S := rI S 369 T) (F := F) hp h5 h6
  have fin : f_X12_steps_169 F (nI (c 6)) (nI (c 5)) (nI (c 0)) (nI tm) (nI (9 * i + 8)) 369 (rI S 369 T) = some ((), rI S 369 (upd T (9 * i + 8) (nI (tm + lf (c 0) (c 5) (c 6))))) := by
    simp only [f_X12_steps_169, l1, qk_true, qk_false, qv_eq, qP_some', qP_none, qc_some', qc_none, qx_inl', qx_inr', qh_inl', qh_inr', z_i369 H, rw_in H hi (show 8 < 9 by omega), nI_add, wI_rI S 369 T (by omega : 9 * i + 8 < 2 ^ 31)]
  simp only [f_X12_steps_121, qk_true, qk_false, qv_eq, qP_some', qP_none, qc_some', qc_none, qx_inl', qx_inr', qh_inl', qh_inr', z_i352 H, z_p931_352 H, z_i369 H, i0, show nI (9 * i) + 5 = nI (9 * i + 5) from n9j i 5, show nI (9 * i) + 6 = nI (9 * i + 6) from n9j i 6, show nI (9 * i) + 8 = nI (9 * i + 8) from n9j i 8, rw_in H hi (show 5 < 9 by omega), rw_in H hi (show 6 < 9 by omega), r0, r5, r6, g4']
  rcases (by omega : c 6 = 0 ∨ c 6 = 1) with e | e
  · rw [e] at fin ⊢
    rw [if_neg (by decide)]
    exact fin
  · rw [e] at fin ⊢
    rw [if_pos (by decide)]
    exact fin
theorem m_s63 (h : Sh S) (hi : i < 64) {tm sd to sg : Nat} {c : Nat → Nat} {T U : Nat → Int32} (rw9 : Row T U i c) (g4 : gI S 934 352 = nI tm) (hp : c 0 < 256) (hto : c 0 = 6 → 1 ≤ to ∧ to ≤ 7) (h6 : c 6 < 2) (h7 : c 7 < 3) (hg : sg < 6) (tl : to < 9) : ∃ T', f_X12_steps_63 F 352 (nI sd) (nI to) (ltr sg) (nI (9 * i)) (rI S 369 T) = some ((), rI S 369 T') ∧ Row T' U i (fun m => if m = 8 then tm + lf (c 0) (if c 0 = 6 then to else c 5) (c 6) else if m = 5 then (if c 0 = 6 then to else c 5) else if m = 7 then (if c 0 = 6 ∧ sg = 3 ∧ c 7 = 0 ∧ to = 4 then sd else c 7) else c m) := by
  have H := Sh_rI h 369 T
  have r0 := rw_rd (S := S) T hi (j := 0) (by omega)
  have r7 := rw_rd (S := S) T hi (j := 7) (by omega)
  rw [rw9.1 0 (by omega), Nat.add_zero] at r0
  rw [rw9.1 7 (by omega)] at r7
  have i0 := rw_in H hi (j := 0) (by omega)
  rw [Nat.add_zero] at i0
  have sgl : ltr sg = 70 ↔ sg = 3 := by
    have : ∀ sg, sg < 6 → (ltr sg = 70 ↔ sg = 3) := by decide
    exact this sg hg
  have s111 : ∀ (T2 : Nat → Int32) (d : Nat → Nat), Row T2 U i d → c 0 = 6 → d 0 = c 0 → d 6 = c 6 → ∃ T', f_X12_steps_111 F 352 (nI to) (nI (9 * i)) (rI S 369 T2) = some ((), rI S 369 T') ∧ Row T' U i (fun m => if m = 8 then tm + lf (c 0) to (c 6) else if m = 5 then to else d m) := by
    intro T2 d rd e0 d0 d6
    have H2 := Sh_rI h 369 T2
    obtain ⟨T', k1, k2⟩ := m_s121 (F := F) h hi (tm := tm) (Row_upd rd (j := 5) (v := to) (by omega)) g4 (show (if 0 = 5 then to else d 0) < 256 by rw [if_neg (by decide), d0]; exact hp) (fun _ => by
      show 1 ≤ (if 5 = 5 then to else d 5) ∧ (if 5 = 5 then to else d 5) ≤ 7
      rw [if_pos rfl]; exact hto e0) (show (if 6 = 5 then to else d 6) < 2 by rw [if_neg (by decide), d6]; exact h6)
    refine ⟨T', ?_, Row_c k2 fun j hj => ?_⟩
    · simp only [f_X12_steps_111, qk_true, qk_false, qv_eq, qP_some', qP_none, qc_some', qc_none, qx_inl', qx_inr', qh_inl', qh_inr', z_i352 H2, z_p931_352 H2, z_i369 H2, show nI (9 * i) + 5 = nI (9 * i + 5) from n9j i 5, rw_in H2 hi (show 5 < 9 by omega), wI_rI S 369 T2 (by omega : 9 * i + 5 < 2 ^ 31)]
      exact k1
    · show (if j = 8 then tm + lf (if 0 = 5 then to else d 0) (if 5 = 5 then to else d 5) (if 6 = 5 then to else d 6) else if j = 5 then to else d j) = _
      rw [if_neg (show ¬ 0 = 5 by decide), if_pos (show 5 = 5 from rfl), if_neg (show ¬ 6 = 5 by decide), d0, d6]
  simp only [f_X12_steps_63, qk_true, qk_false, qv_eq, qP_some', qP_none, qc_some', qc_none, qx_inl', qx_inr', qh_inl', qh_inr', z_i352 H, z_p931_352 H, z_i369 H, i0, r0, show nI (c 0) = 6 ↔ c 0 = 6 from nI_eq (b := 6) (by omega) (by omega), sgl, show nI (9 * i) + 7 = nI (9 * i + 7) from n9j i 7, rw_in H hi (show 7 < 9 by omega), r7, show nI (c 7) = 0 ↔ c 7 = 0 from nI_eq (b := 0) (by omega) (by omega), show nI to = 4 ↔ to = 4 from nI_eq (b := 4) (by omega) (by omega), wI_rI S 369 T (by omega : 9 * i + 7 < 2 ^ 31)]
  by_cases e0 : c 0 = 6
  · simp only [if_pos e0]
    have base : ¬ (c 0 = 6 ∧ sg = 3 ∧ c 7 = 0 ∧ to = 4) → ∃ T', f_X12_steps_111 F 352 (nI to) (nI (9 * i)) (rI S 369 T) = some ((), rI S 369 T') ∧ Row T' U i (fun m => if m = 8 then tm + lf (c 0) to (c 6) else if m = 5 then to else if m = 7 then (if c 0 = 6 ∧ sg = 3 ∧ c 7 = 0 ∧ to = 4 then sd else c 7) else c m) := by
      intro hn
      obtain ⟨T', k1, k2⟩ := s111 T c rw9 e0 rfl rfl
      refine ⟨T', k1, Row_c k2 fun j hj => ?_⟩
      show (if j = 8 then _ else if j = 5 then to else c j) = (if j = 8 then _ else if j = 5 then to else if j = 7 then (if c 0 = 6 ∧ sg = 3 ∧ c 7 = 0 ∧ to = 4 then sd else c 7) else c j)
      rw [if_neg hn]
      by_cases j8 : j = 8
      · rw [if_pos j8, if_pos j8]
      · rw [if_neg j8, if_neg j8]
        by_cases j5 : j = 5
        · rw [if_pos j5, if_pos j5]
        · rw [if_neg j5, if_neg j5]
          by_cases j7 : j = 7
          · rw [if_pos j7, j7]
          · rw [if_neg j7]
    by_cases g3 : sg = 3
    · rw [if_pos g3]
      by_cases z7 : c 7 = 0
      · rw [if_pos z7]
        by_cases t4 : to = 4
        · rw [if_pos t4]
          obtain ⟨T', k1, k2⟩ := s111 _ _ (Row_upd rw9 (j := 7) (v := sd) (by omega)) e0 (by rw [if_neg (by decide)]) (by rw [if_neg (by decide)])
          refine ⟨T', k1, Row_c k2 fun j hj => ?_⟩
          show (if j = 8 then _ else if j = 5 then to else if j = 7 then sd else c j) = (if j = 8 then _ else if j = 5 then to else if j = 7 then (if c 0 = 6 ∧ sg = 3 ∧ c 7 = 0 ∧ to = 4 then sd else c 7) else c j)
          rw [if_pos (show c 0 = 6 ∧ sg = 3 ∧ c 7 = 0 ∧ to = 4 from ⟨e0, g3, z7, t4⟩)]
        · rw [if_neg t4]; exact base (fun e => t4 e.2.2.2)
      · rw [if_neg z7]; exact base (fun e => z7 e.2.2.1)
    · rw [if_neg g3]; exact base (fun e => g3 e.2.1)
  · simp only [if_neg e0]
    obtain ⟨T', k1, k2⟩ := m_s121 (F := F) h hi (tm := tm) rw9 g4 hp (fun e => absurd e e0) h6
    refine ⟨T', k1, Row_c k2 fun j hj => ?_⟩
    show (if j = 8 then _ else c j) = (if j = 8 then _ else if j = 5 then c 5 else if j = 7 then (if c 0 = 6 ∧ sg = 3 ∧ c 7 = 0 ∧ to = 4 then sd else c 7) else c j)
    rw [if_neg (show ¬ (c 0 = 6 ∧ sg = 3 ∧ c 7 = 0 ∧ to = 4) from fun e => e0 e.1)]
    by_cases j8 : j = 8
    · rw [if_pos j8, if_pos j8]
    · rw [if_neg j8, if_neg j8]
      by_cases j5 : j = 5
      · rw [if_pos j5, j5]
      · rw [if_neg j5]
        by_cases j7 : j = 7
        · rw [if_pos j7, j7]
        · rw [if_neg j7]
end MST
