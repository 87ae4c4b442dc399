/-! the class reads a list -/
section CRE
variable {S T : gk_S} {F r m : Nat} {b : Nat → Nat} {A : AS} {t : Nat × Nat × Nat × Nat}
theorem CB_F {T' : gk_S} (hr : Ba r) (h : CB T r b m A) (hA : WA m A) (f : Frm [703, 704, 705] [706] [] [] [] [] T T') : CB T' r b m A := by
  obtain ⟨c1, c2, c3, c4, c5, c6⟩ := h
  have d : DF r T T' := DF_F f (by decide) (by decide) (by simp)
  have hT := DF_RD d hr c1
  have e1 : ∀ f' a, f' ∉ [703, 704, 705] → gI T' f' a = gI T f' a := f.2.2.2.1
  refine ⟨hT, (e1 _ _ (by decide)).trans c2, fun q => (e1 _ _ (by decide)).trans (c3 q), fun q p => (e1 _ _ (by decide)).trans (c4 q p), fun q p => (f.2.2.2.2.1 _ _ (by decide)).trans (c5 q p), ?_⟩
  obtain ⟨l1, l2, l3, l4, l5⟩ := c6
  have cc : ∀ i ρ, CR T (ru r i) ρ ∧ gI T 304 (ru r i) = 0 → CR T' (ru r i) ρ ∧ gI T' 304 (ru r i) = 0 := fun i ρ q => ⟨CR_c q.1 ⟨e1 _ _ (by decide), e1 _ _ (by decide), f.2.2.2.2.2.2.2.1 _ (by simp), f.2.2.2.2.2.2.2.1 _ (by simp)⟩, (e1 _ _ (by decide)).trans q.2⟩
  exact ⟨(e1 _ _ (by decide)).trans l1, (e1 _ _ (by decide)).trans l2, (e1 _ _ (by decide)).trans l3, fun i hi => cc i _ (l4 i hi), fun q => cc _ _ (l5 q)⟩
/-- what reading comes to -/
def RO (S : gk_S) (r : Nat) (b : Nat → Nat) (m : Nat) (f : Option (Int32 × gk_S)) (o : (Nat × Nat) ⊕ AS) : Prop := ∃ T', DF r S T' ∧ ((∃ κ pl, o = .inl (κ, pl) ∧ 1 ≤ κ ∧ κ < 5 ∧ f = some (0, T') ∧ gI T' 701 256 = nI κ ∧ gI T' 702 256 = nI pl) ∨ ∃ A', o = .inr A' ∧ f = some (1, T') ∧ CB T' r b m A' ∧ WA m A' ∧ A'.w = 0 ∧ gI T' 701 256 = 0)
theorem k_rd (hF : 16400 ≤ F) (hr : Ba r) : ∀ d j fu (T : gk_S) (A : AS), CB T r b m A → gI T 705 256 = nI A.o → WA m A → A.w ≠ 0 → m + 1 - A.o ≤ d → j ≤ A.o → d < fu → RO T r b m (f_X9_read_21 F fu 256 r (nI j) T) (RA b m A) := by
  intro d
  induction d with
  | zero => intro j fu T A h e5 hA h0 h1 h2 h3; have := hA.1; omega
  | succ d ih =>
    intro j fu T A h e5 hA h0 h1 h2 h3
    obtain ⟨fu, rfl⟩ : ∃ q, fu = q + 1 := ⟨fu - 1, by omega⟩
    have o := hA.1
    have m2 := h.1.2.2.1
    have hb := Ba_lt hr
    obtain ⟨T1, r1, r2, r3⟩ := k_tstep (F := F) hF h.1 e5 o
    have tf := tk_TF b o
    have tok := tk_ok b o
    have h1' := CB_F hr h hA r2
    have d1 : DF r T T1 := DF_F r2 (by decide) (by decide) (by simp)
    have kq := kkL tf
    have w0 : ¬ nI A.w = 0 := fun e => h0 ((nI_eq (b := 0) (by have := hA.2.1; omega) (by omega)).mp e)
    have sdef : stA b m A = match tkA b (tk b m A.o) A with | .inl κ => .inl (κ, (tk b m A.o).2.2.1) | .inr A' => .inr A' := rfl
    rw [f_X9_read_21, if_neg (show ¬ (2100 : Int32) < nI j from nI_nlt (a := 2100) (by omega) (by omega)), z_i256 h.1.1, qk_true, qv_eq, h.2.1, if_neg w0, r1, qc_some', z_i256 h1'.1.1, qk_true, qv_eq, r3.1]
    unfold tkA at sdef
    generalize tk b m A.o = t at r3 tf tok kq sdef
    -- a fault
    have flt : ∀ κ (T2 : gk_S), 1 ≤ κ → κ < 5 → Sh T2 → DF r T T2 → gI T2 704 256 = nI t.2.2.1 → stA b m A = .inl (κ, t.2.2.1) → RO T r b m (f_X9_read_73 F (f_X9_read_21 F fu) 256 r (nI j) (nI κ) 256 T2) (RA b m A) := by
      intro κ T2 k1 k5 hs df e4 es
      have k0 : ¬ nI κ = 0 := fun e => by have := (nI_eq (b := 0) (by omega) (by omega)).mp e; omega
      unfold f_X9_read_73
      rw [z_i256 hs, qk_true, qv_eq, z_i256 (Sh_sI hs _ _ _), qk_true, qv_eq, rd_eq, if_neg k0, qv_eq, rd_ne _ _ (Or.inl (by decide)), e4, qv_eq]
      refine ⟨_, DF_sI (DF_sI df (Or.inl (by omega)) _) (Or.inl (by omega)) _, Or.inl ⟨κ, t.2.2.1, RA_f hA h0 es, k1, k5, rfl, ?_, rd_eq _ _ _ _⟩⟩
      rw [rd_ne _ _ (Or.inl (by decide))]; exact rd_eq _ _ _ _
    by_cases c5 : t.1 = 5
    · rw [if_pos (kq.2.2.2.2.1.mpr c5)]
      rw [if_pos c5] at sdef
      exact flt 1 T1 (by omega) (by omega) h1'.1.1 d1 r3.2.1 sdef
    rw [if_neg (fun e => c5 (kq.2.2.2.2.1.mp e)), qv_eq]
    rw [if_neg c5] at sdef
    by_cases c6 : t.1 = 6
    · rw [if_pos (kq.2.2.2.2.2.1.mpr c6)]
      rw [if_pos c6] at sdef
      exact flt 4 T1 (by omega) (by omega) h1'.1.1 d1 r3.2.1 sdef
    rw [if_neg (fun e => c6 (kq.2.2.2.2.2.1.mp e))]
    rw [if_neg c6] at sdef
    obtain ⟨T2, k1, k2, k3, k4⟩ := k_take (F := F) hF hr h1' hA h0 r3 tf
    rcases k4 with ⟨κ, e1, e2, e3, e4⟩ | ⟨A', e1, e2, e3⟩
    · rw [e1] at sdef
      rw [e4, qc_some']
      exact flt κ T2 e2 e3 (DF_Sh (DF_trans d1 k1) h.1.1) (DF_trans d1 k1) (k2.trans r3.2.1) sdef
    · rw [e1] at sdef
      obtain ⟨w1, w2⟩ := stA_W hA h0 sdef
      obtain ⟨-, w3, -⟩ := tak_W hA h0 (tok.2.2.1 (by omega)).2 (wk_1 b t) e1
      have e5' : gI T2 705 256 = nI A'.o := by rw [k3, r3.2.2.1 (by omega), w3]
      have g5 := CB_F (A := A') hr e3 w1 Fr_refl
      unfold f_X9_read_73
      rw [e2, qc_some', z_i256 e3.1.1, qk_true, qv_eq, z_i256 (Sh_sI e3.1.1 _ _ _), qk_true, qv_eq, rd_eq, if_pos rfl, nI_1]
      have d2 : DF r T (sI T2 701 256 0) := DF_sI (DF_trans d1 k1) (Or.inl (by omega)) _
      have cb2 : CB (sI T2 701 256 0) r b m A' := by
        obtain ⟨q1, q2, q3, q4, q5, q6⟩ := e3
        refine ⟨RD_sI q1 (by decide) _ _, by rw [rd_ne _ _ (Or.inl (by decide))]; exact q2, fun q => by rw [rd_ne _ _ (Or.inl (by decide))]; exact q3 q, fun q p => by rw [rd_ne _ _ (Or.inl (by decide))]; exact q4 q p, fun q p => by rw [rj_I]; exact q5 q p, LP_c q6 w1.2.2.1 (fun q => ⟨q, (w1.2.2.2.2.2.1 q).1⟩) (fun f c x1 x2 => rd_ne _ _ (Or.inr (by omega))) (fun _ _ _ => rfl)⟩
      have e75 : gI (sI T2 701 256 0) 705 256 = nI A'.o := by rw [rd_ne _ _ (Or.inl (by decide))]; exact e5'
      have e71 : gI (sI T2 701 256 0) 701 256 = 0 := rd_eq _ _ _ _
      generalize sI T2 701 256 0 = T3 at d2 cb2 e75 e71
      by_cases z : A'.w = 0
      · rw [RA_0 hA h0 sdef z]
        obtain ⟨fu, rfl⟩ : ∃ q, fu = q + 1 := ⟨fu - 1, by omega⟩
        have fin : f_X9_read_21 F (fu + 1) 256 r (nI (j + 1)) T3 = some (1, T3) := by
          rw [f_X9_read_21]
          by_cases cc : (2100 : Int32) < nI (j + 1)
          · rw [if_pos cc]
          · rw [if_neg cc, z_i256 cb2.1.1, qk_true, qv_eq, cb2.2.1, z, if_pos (show nI 0 = 0 from rfl)]
        exact ⟨T3, d2, Or.inr ⟨A', rfl, fin, cb2, w1, z, e71⟩⟩
      · have lt := w2.resolve_left z
        have oo := w1.1
        rw [RA_s hA h0 sdef z]
        obtain ⟨T4, q1, q2⟩ := ih (j + 1) fu T3 A' cb2 e75 w1 z (by omega) (by omega) (by omega)
        exact ⟨T4, DF_trans d2 q1, q2⟩
end CRE
