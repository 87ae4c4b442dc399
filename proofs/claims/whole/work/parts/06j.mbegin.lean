/-! the model's table grows -/
section MBG
variable {S : gk_S} {F : Nat}
theorem m_b109 (h : Sh S) {n tm : Nat} (hn : n < 64) {p : Nat → Nat} (wp : WP p) (T : Nat → Int32) (g2 : gI S 932 352 = nI n) (g4 : gI S 934 352 = nI tm) : ∃ T', f_X12_begins_109 F 352 (nI (p 1)) (nI (p 2)) (nI (p 3)) (nI (p 4)) (nI (p 5)) (rI S 369 T) = some (1, rI (sI S 932 352 (nI (n + 1))) 369 T') ∧ Row T' T n (nbg p tm) := by
  obtain ⟨w0, w1, w2, w3, w4, w5, w6⟩ := wp
  have H0 := fun T => Sh_rI h 369 T
  have H1 := fun T => Sh_rI (Sh_sI h 932 352 (nI (n + 1))) 369 T
  have R0 : ∀ v0 v1 v2 v3 v4 v5 v6 v7 v8 : Nat, Row (upd (upd (upd (upd (upd (upd (upd (upd (upd T (9 * n) (nI v0)) (9 * n + 1) (nI v1)) (9 * n + 2) (nI v2)) (9 * n + 3) (nI v3)) (9 * n + 4) (nI v4)) (9 * n + 5) (nI v5)) (9 * n + 6) (nI v6)) (9 * n + 7) (nI v7)) (9 * n + 8) (nI v8)) T n (fun j => [v0, v1, v2, v3, v4, v5, v6, v7, v8].getD j 0) := by
    intro v0 v1 v2 v3 v4 v5 v6 v7 v8
    refine ⟨fun j hj => ?_, fun m hm => ?_⟩
    · have : j = 0 ∨ j = 1 ∨ j = 2 ∨ j = 3 ∨ j = 4 ∨ j = 5 ∨ j = 6 ∨ j = 7 ∨ j = 8 := by omega
      unfold upd
      rcases this with rfl | rfl | rfl | rfl | rfl | rfl | rfl | rfl | rfl
      · rw [if_neg (by omega), if_neg (by omega), if_neg (by omega), if_neg (by omega), if_neg (by omega), if_neg (by omega), if_neg (by omega), if_neg (by omega), if_pos (by omega)]; rfl
      · rw [if_neg (by omega), if_neg (by omega), if_neg (by omega), if_neg (by omega), if_neg (by omega), if_neg (by omega), if_neg (by omega), if_pos rfl]; rfl
      · rw [if_neg (by omega), if_neg (by omega), if_neg (by omega), if_neg (by omega), if_neg (by omega), if_neg (by omega), if_pos rfl]; rfl
      · rw [if_neg (by omega), if_neg (by omega), if_neg (by omega), if_neg (by omega), if_neg (by omega), if_pos rfl]; rfl
      · rw [if_neg (by omega), if_neg (by omega), if_neg (by omega), if_neg (by omega), if_pos rfl]; rfl
      · rw [if_neg (by omega), if_neg (by omega), if_neg (by omega), if_pos rfl]; rfl
      · rw [if_neg (by omega), if_neg (by omega), if_pos rfl]; rfl
      · rw [if_neg (by omega), if_pos rfl]; rfl
      · rw [if_pos rfl]; rfl
    · unfold upd
      rw [if_neg (by omega), if_neg (by omega), if_neg (by omega), if_neg (by omega), if_neg (by omega), if_neg (by omega), if_neg (by omega), if_neg (by omega), if_neg (by omega)]
  have i0 : ∀ T, inb (nI (9 * n)) (gL (rI (sI S 932 352 (nI (n + 1))) 369 T) 369) = true := fun T => by
    have := rw_in (H1 T) hn (j := 0) (by omega)
    rw [Nat.add_zero] at this
    exact this
  have i9 : ∀ T j, j < 9 → inb (nI (9 * n + j)) (gL (rI (sI S 932 352 (nI (n + 1))) 369 T) 369) = true := fun T j hj => rw_in (H1 T) hn hj
  have ga : ∀ T, gI (rI S 369 T) 932 352 = nI n := fun T => g2
  have gb : ∀ T, gI (rI (sI S 932 352 (nI (n + 1))) 369 T) 934 352 = nI tm := fun T => g4
  have l1 := fun T => m_lasts (S := rI (sI S 932 352 (nI (n + 1))) 369 T) (F := F) (pr := p 1) (ph := 1) (an := 0) (by omega) (fun _ => by omega) (by omega)
  have fin : ∀ (x5 : Int32) (T2 : Nat → Int32), f_X12_begins_197 F 352 (nI (p 1)) (nI (9 * n)) x5 (nI (9 * n + 5)) 369 (rI (sI S 932 352 (nI (n + 1))) 369 T2) = some (1, rI (sI S 932 352 (nI (n + 1))) 369 (upd (upd (upd (upd T2 (9 * n + 5) x5) (9 * n + 6) 0) (9 * n + 7) 0) (9 * n + 8) (nI (tm + lf (p 1) 1 0)))) := by
    intro x5 T2
    simp only [f_X12_begins_197, qk_true, qk_false, qv_eq, qP_some', qP_none, qc_some', qc_none, qx_inl', qx_inr', qh_inl', qh_inr', z_i369 (H1 _), i9 _ 5 (by omega), i9 _ 6 (by omega), i9 _ 7 (by omega), i9 _ 8 (by omega), wI_rI _ 369 _ (by omega : 9 * n + 5 < 2 ^ 31), wI_rI _ 369 _ (by omega : 9 * n + 6 < 2 ^ 31), wI_rI _ 369 _ (by omega : 9 * n + 7 < 2 ^ 31), wI_rI _ 369 _ (by omega : 9 * n + 8 < 2 ^ 31), z_i352 (H1 _), z_p931_352 (H1 _), show nI (9 * n) + 6 = nI (9 * n + 6) from n9j n 6, show nI (9 * n) + 7 = nI (9 * n + 7) from n9j n 7, show nI (9 * n) + 8 = nI (9 * n + 8) from n9j n 8, gb, show (1 : Int32) = nI 1 from rfl, show (0 : Int32) = nI 0 from rfl, l1, nI_add]
  have e0 : sI (rI S 369 T) 932 352 (nI (n + 1)) = rI (sI S 932 352 (nI (n + 1))) 369 T := rfl
  have lfe : lf (p 1) 1 0 = lf (p 1) (ph0 (p 1)) 0 := by
    unfold ph0
    by_cases e : p 1 = 6
    · rw [if_pos e]
    · rw [if_neg e]; unfold lf; rw [if_neg e, if_neg e]
  refine ⟨_, ?_, R0 (p 1) (p 2) (p 3) (p 4) (p 5) (ph0 (p 1)) 0 0 (tm + lf (p 1) (ph0 (p 1)) 0)⟩
  rw [← lfe]
  simp only [f_X12_begins_109, qk_true, qk_false, qv_eq, qP_some', qP_none, qc_some', qc_none, qx_inl', qx_inr', qh_inl', qh_inr', z_i352 (H0 _), ga, nI_1, e0, n9, z_p931_352 (H1 _), z_i369 (H1 _), i0, i9 _ 1 (by omega), i9 _ 2 (by omega), i9 _ 3 (by omega), i9 _ 4 (by omega), show nI (9 * n) + 1 = nI (9 * n + 1) from n9j n 1, show nI (9 * n) + 2 = nI (9 * n + 2) from n9j n 2, show nI (9 * n) + 3 = nI (9 * n + 3) from n9j n 3, show nI (9 * n) + 4 = nI (9 * n + 4) from n9j n 4, show nI (9 * n) + 5 = nI (9 * n + 5) from n9j n 5, wI_rI _ 369 _ (by omega : 9 * n < 2 ^ 31), wI_rI _ 369 _ (by omega : 9 * n + 1 < 2 ^ 31), wI_rI _ 369 _ (by omega : 9 * n + 2 < 2 ^ 31), wI_rI _ 369 _ (by omega : 9 * n + 3 < 2 ^ 31), wI_rI _ 369 _ (by omega : 9 * n + 4 < 2 ^ 31), show nI (p 1) = 6 ↔ p 1 = 6 from nI_eq (b := 6) (by omega) (by omega), fin]
  unfold ph0
  by_cases e : p 1 = 6
  · rw [if_pos e, if_pos e]; rfl
  · rw [if_neg e, if_neg e]; rfl
/-- what the model's table leaves as it is -/
def FrM (S T : gk_S) : Prop := ∃ (U : Nat → Int32) (v w : Int32), T = rI (sI (sI S 936 352 w) 932 352 v) 369 U
theorem m_begins (h : Sh S) (hF : 16400 ≤ F) {n mx tm : Nat} {C : Nat → Nat → Nat} {p : Nat → Nat} (mt : MTb S C n) (wp : WP p) (hn : n ≤ mx) (h1 : 1 ≤ mx) (hm : mx ≤ 64) (g3 : gI S 933 352 = nI mx) (g4 : gI S 934 352 = nI tm) (ht : tm ≤ 1000000000) :
    ∃ S', f_X12_begins F S 352 (nI (p 1)) (nI (p 2)) (nI (p 3)) (nI (p 4)) (nI (p 5)) = some (bI (!(bgn C n mx (nbg p tm)).2.2.2), S') ∧ FrM S S' ∧ MTb S' (bgn C n mx (nbg p tm)).2.1 (bgn C n mx (nbg p tm)).1 ∧ gI S' 936 352 = gI S 936 352 + bI (bgn C n mx (nbg p tm)).2.2.1 := by
  have mt0 := mt
  obtain ⟨t1, t2, t3⟩ := mt
  have e00 : rI S 369 (xI S 369) = S := rI_id S 369 rfl
  have wn := WC_nbg (tm := tm) wp ht
  unfold bgn
  by_cases q1 : n < mx
  · simp only [if_pos q1]
    obtain ⟨T', k1, k2⟩ := m_b109 (F := F) h (by omega : n < 64) wp (xI S 369) t2 g4
    rw [e00] at k1
    refine ⟨rI (sI S 932 352 (nI (n + 1))) 369 T', ?_, ⟨T', nI (n + 1), gI S 936 352, by rw [sI_id S 936 352 rfl]⟩, ⟨by omega, rfl, fun i hi => ?_⟩, (Int32.add_zero _).symm⟩
    · simp only [f_X12_begins, qk_true, qk_false, qv_eq, qP_some', qP_none, qc_some', qc_none, qx_inl', qx_inr', qh_inl', qh_inr', z_i352 h, t2, g3, show ¬ nI n = nI mx from fun e => by have := (nI_eq (by omega) (by omega)).mp e; omega, if_false, k1]
      rfl
    · by_cases e : i = n
      · subst e
        simp only [if_true]
        exact ⟨wn, by omega, k2.1⟩
      · simp only [if_neg e]
        refine ⟨(t3 i (by omega)).1, by omega, fun j hj => ?_⟩
        show T' (9 * i + j) = _
        rw [k2.2 _ (by omega)]
        exact (t3 i (by omega)).2.2 j hj
  · simp only [if_neg q1]
    have hnm : nI n = nI mx := by rw [show n = mx by omega]
    have lt := lnd_lt C n 0 64 n (by omega) (Or.inr rfl)
    obtain ⟨fu, rfl⟩ : ∃ fu, F = fu + 1 + n := ⟨F - 1 - n, by omega⟩
    have ll := m_beg17 (F := fu + 1 + n) h mt0 (nI (p 1)) (nI (p 2)) (nI (p 3)) (nI (p 4)) (nI (p 5)) n 0 (fu + 1) 64 (by omega) (Or.inr rfl)
    rw [show ix 64 64 = -1 from rfl, show nI 0 = 0 from rfl] at ll
    generalize hr : lnd C n 0 64 = r at lt ll ⊢
    by_cases q2 : r < 64
    · simp only [if_pos q2]
      obtain ⟨n, rfl⟩ : ∃ n', n = n' + 1 := ⟨n - 1, by omega⟩
      simp only [Nat.add_sub_cancel]
      obtain ⟨T', r1, r2⟩ := m_goes (S := S) (F := fu + 1 + (n + 1)) h hF (T := xI S 369) (C := C) (k := r) (n := n) (fun i hi j hj => (t3 i hi).2.2 j hj) (by omega) (by omega)
      rw [← mt_id t2] at r1
      have H1 : Sh (mt S T' n) := h
      have H2 : Sh (sI (sI S 932 352 (nI n)) 936 352 (gI S 936 352 + 1)) := h
      obtain ⟨T2, k1, k2⟩ := m_b109 (S := sI (sI S 932 352 (nI n)) 936 352 (gI S 936 352 + 1)) (F := fu + 1 + (n + 1)) H2 (by omega : n < 64) wp T' rfl g4
      refine ⟨rI (sI (sI (sI S 932 352 (nI n)) 936 352 (gI S 936 352 + 1)) 932 352 (nI (n + 1))) 369 T2, ?_, ⟨T2, nI (n + 1), gI S 936 352 + 1, ?_⟩, ⟨by omega, rfl, fun i hi => ?_⟩, rfl⟩
      · have e5 : sI (mt S T' n) 936 352 (gI (mt S T' n) 936 352 + 1) = rI (sI (sI S 932 352 (nI n)) 936 352 (gI S 936 352 + 1)) 369 T' := rfl
        simp only [f_X12_begins, qk_true, qk_false, qv_eq, qP_some', qP_none, qc_some', qc_none, qx_inl', qx_inr', qh_inl', qh_inr', z_i352 h, t2, g3, hnm, if_true, ll]
        rw [f_X12_begins_17]
        simp only [qk_true, qk_false, qv_eq, qP_some', qP_none, qc_some', qc_none, qx_inl', qx_inr', qh_inl', qh_inr', z_i352 h, t2, hnm, show nI mx ≤ nI mx from nI_le (Nat.le_refl _) (by omega), if_true, ix_in q2, show (0 : Int32) ≤ nI r from nI_pos' (by omega), r1, z_i352 H1, e5, k1]
        rfl
      · show rI (sI (sI (sI S 932 352 (nI n)) 936 352 _) 932 352 _) 369 T2 = _
        rw [sI_comm S (Or.inl (by decide)), sI_sI]
      · by_cases e : i = n
        · subst e
          simp only [if_true]
          exact ⟨wn, by omega, k2.1⟩
        · simp only [if_neg e]
          have ex : ∃ j, j < n + 1 ∧ rm r n C i = C j := by
            unfold rm
            by_cases e1 : r ≤ i ∧ i < n
            · exact ⟨i + 1, by omega, by rw [if_pos e1]⟩
            · exact ⟨i, by omega, by rw [if_neg e1, if_neg (by omega)]⟩
          obtain ⟨j, j1, j2⟩ := ex
          refine ⟨by rw [j2]; exact (t3 j j1).1, by omega, fun j hj => ?_⟩
          show T2 (9 * i + j) = _
          rw [k2.2 _ (by omega)]
          exact r2 i (by omega) j hj
    · simp only [if_neg q2]
      refine ⟨S, ?_, ⟨xI S 369, gI S 932 352, gI S 936 352, ?_⟩, mt0, (Int32.add_zero _).symm⟩
      · simp only [f_X12_begins, qk_true, qk_false, qv_eq, qP_some', qP_none, qc_some', qc_none, qx_inl', qx_inr', qh_inl', qh_inr', z_i352 h, t2, g3, hnm, if_true, ll]
        rw [f_X12_begins_17]
        simp only [qk_true, qk_false, qv_eq, qP_some', qP_none, qc_some', qc_none, qx_inl', qx_inr', qh_inl', qh_inr', z_i352 h, t2, hnm, show nI mx ≤ nI mx from nI_le (Nat.le_refl _) (by omega), if_true, ix_nn (by omega : 64 < 2 ^ 31), q2, if_false]
        rfl
      · rw [sI_id S 936 352 rfl, sI_id S 932 352 rfl, e00]
end MBG
