/-! what a change of the class's table leaves as it is -/
def FrT (S T : gk_S) : Prop := gk_n T = gk_n S ∧ gk_K T = gk_K S ∧ gL T = gL S ∧ gP T = gP S ∧ xI T = xI S ∧ xJ T = xJ S ∧ (∀ a, a ≠ 280 → xP T a = xP S a) ∧ (∀ f a, 8 < f → f ≠ 601 → f ≠ 604 → f ≠ 605 → gI T f a = gI S f a) ∧ ∀ f a, 4 < f → gJ T f a = gJ S f a
theorem FrT_refl (S : gk_S) : FrT S S := ⟨rfl, rfl, rfl, rfl, rfl, rfl, fun _ _ => rfl, fun _ _ _ _ _ _ => rfl, fun _ _ _ => rfl⟩
theorem FrT_trans {S T U : gk_S} (h : FrT S T) (g : FrT T U) : FrT S U := by
  obtain ⟨h1, h2, h3, h4, h5, h6, h7, h8, h9⟩ := h
  obtain ⟨g1, g2, g3, g4, g5, g6, g7, g8, g9⟩ := g
  exact ⟨g1.trans h1, g2.trans h2, g3.trans h3, g4.trans h4, g5.trans h5, g6.trans h6, fun a e => (g7 a e).trans (h7 a e), fun f a e1 e2 e3 e4 => (g8 f a e1 e2 e3 e4).trans (h8 f a e1 e2 e3 e4), fun f a e => (g9 f a e).trans (h9 f a e)⟩
theorem FrT_sI (S : gk_S) {f : Nat} (a : Nat) (v : Int32) (hf : f ≤ 8 ∨ f = 601 ∨ f = 604 ∨ f = 605) : FrT S (sI S f a v) := ⟨rfl, rfl, rfl, rfl, rfl, rfl, fun _ _ => rfl, fun j b e1 e2 e3 e4 => rd_ne S v (Or.inl (by omega)), fun _ _ _ => rfl⟩
theorem FrT_sJ (S : gk_S) {f : Nat} (a : Nat) (v : Int64) (hf : f ≤ 4) : FrT S (sJ S f a v) := ⟨rfl, rfl, rfl, rfl, rfl, rfl, fun _ _ => rfl, fun _ _ _ _ _ _ => rfl, fun j b e1 => rj_ne S v (Or.inl (by omega))⟩
theorem FrT_rP (S : gk_S) (P : Nat → Option Nat) : FrT S (rP S 280 P) := ⟨rfl, rfl, rfl, rfl, rfl, rfl, fun a e => by rw [xP_rP, if_neg e], fun _ _ _ _ _ _ => rfl, fun _ _ _ => rfl⟩
theorem FrT_bgS (S : gk_S) (q : Nat) (c : Nat → Nat) : FrT S (bgS S q c) := by
  unfold bgS
  exact FrT_trans (FrT_trans (FrT_trans (FrT_trans (FrT_trans (FrT_trans (FrT_trans (FrT_sI S q _ (by omega)) (FrT_sJ _ q _ (by omega))) (FrT_sJ _ q _ (by omega))) (FrT_sJ _ q _ (by omega))) (FrT_sJ _ q _ (by omega))) (FrT_sI _ q _ (by omega))) (FrT_sI _ q _ (by omega))) (FrT_sI _ q _ (by omega))
theorem FrT_nbS (S : gk_S) (q : Nat) (c : Nat → Nat) (n : Nat) : FrT S (nbS S q c n) := FrT_trans (FrT_trans (FrT_bgS S q c) (FrT_sI _ q _ (by omega))) (FrT_sI _ 279 _ (by omega))
theorem FrT_tb (S : gk_S) (P : Nat → Option Nat) (n : Nat) : FrT S (tb S P n) := FrT_trans (FrT_rP S P) (FrT_sI _ 279 _ (by omega))
theorem FrT_stS (S : gk_S) (q : Nat) (c : Nat → Nat) : FrT S (stS S q c) := FrT_trans (FrT_trans (FrT_trans (FrT_sI S q _ (by omega)) (FrT_sI _ q _ (by omega))) (FrT_sI _ q _ (by omega))) (FrT_sI _ q _ (by omega))
theorem FrT_Sh {S T : gk_S} (h : FrT S T) (s : Sh S) : Sh T := by
  obtain ⟨h1, h2, h3, h4, h5, h6, h7, h8, h9⟩ := h
  obtain ⟨s1, s2, s3, s4, s5⟩ := s
  refine ⟨h1.trans s1, fun a ha => by rw [h2, h3]; exact s2 a ha, fun q hq => by rw [h4]; exact s3 q hq, fun k hk => ⟨by rw [h4]; exact (s4 k hk).1, fun i hi => ⟨by rw [h7 _ (by omega)]; exact ((s4 k hk).2 i hi).1, by rw [h4]; exact ((s4 k hk).2 i hi).2⟩⟩, fun i hi => ⟨by rw [h7 _ (by omega)]; exact (s5 i hi).1, by rw [h7 _ (by omega)]; exact (s5 i hi).2⟩⟩
theorem FrT_isb {S T : gk_S} (h : FrT S T) (a k : Nat) : isb T a k = isb S a k := by
  unfold isb
  rw [h.1, h.2.1]
theorem FrT_PK {S T : gk_S} (h : FrT S T) {a : Nat} {p : Nat → Nat} (pk : PK S a p) : PK T a p := by
  obtain ⟨k1, k2, k3, k4, k5, k6, k7⟩ := pk
  exact ⟨(FrT_isb h _ _).trans k1, by rw [h.2.2.2.1]; exact k2, (FrT_isb h _ _).trans k3, by rw [h.2.2.1]; exact k4, fun f hf => by rw [h.2.2.2.2.2.1]; exact k5 f hf, by rw [h.2.2.2.2.2.2.2.1 _ _ (by omega) (by omega) (by omega) (by omega)]; exact k6, k7⟩
/-- the class's table, its cells all different -/
def CT2 (S : gk_S) (Q : Nat → Nat) (C : Nat → Nat → Nat) (n : Nat) : Prop := CT S Q C n ∧ ∀ i j, i < 64 → j < 64 → Q i = Q j → i = j
theorem nb_f (S : gk_S) (q : Nat) (c : Nat → Nat) (n : Nat) {f : Nat} (hf : 9 ≤ f) (h1 : f ≠ 601) (b : Nat) : gI (nbS S q c n) f b = gI S f b := by
  unfold nbS
  rw [rd_ne _ _ (Or.inl h1), rd_ne _ _ (Or.inl (by omega)), bg_f S q c hf]
theorem nb_601 (S : gk_S) (q : Nat) (c : Nat → Nat) (n : Nat) : gI (nbS S q c n) 601 279 = nI (n + 1) := by
  unfold nbS
  rw [rd_eq]
theorem nb_CC {S : gk_S} {q : Nat} {c p : Nat → Nat} {tm n : Nat} (hq : q ≠ 279) (bg : BG c p tm) : CC (nbS S q c n) q c := by
  obtain ⟨b0, b1, b2, b3, b4, b5, b6, b7, b8⟩ := bg
  unfold nbS
  refine ⟨?_, ?_, ?_, ?_, ?_, ?_, ?_, ?_, ?_⟩
  · rw [rd_ne _ _ (Or.inl (by decide)), rd_ne _ _ (Or.inl (by decide)), bg_0]
  · rw [rj_I, rj_I, bj_1]
  · rw [rj_I, rj_I, bj_2]
  · rw [rj_I, rj_I, bj_3]
  · rw [rj_I, rj_I, bj_4]
  · rw [rd_ne _ _ (Or.inl (by decide)), rd_ne _ _ (Or.inl (by decide)), bg_5]
  · rw [rd_ne _ _ (Or.inl (by decide)), rd_ne _ _ (Or.inl (by decide)), bg_6, b6]; rfl
  · rw [rd_ne _ _ (Or.inl (by decide)), rd_ne _ _ (Or.inl (by decide)), bg_7, b7]; rfl
  · rw [rd_ne _ _ (Or.inl (by decide)), rd_eq]
theorem nb_CCq {S : gk_S} {q : Nat} {c : Nat → Nat} {n b : Nat} (hb : b ≠ q) (h9 : b ≠ 279) {d : Nat → Nat} (cc : CC S b d) : CC (nbS S q c n) b d := by
  refine CC_c cc ?_
  unfold nbS
  refine ⟨?_, ?_, ?_, ?_, ?_, ?_, ?_, ?_, ?_⟩
  · rw [rd_ne _ _ (Or.inr h9), rd_ne _ _ (Or.inr hb), bg_q S q c _ hb]
  · rw [rj_I, rj_I, bj_q S q c _ hb]
  · rw [rj_I, rj_I, bj_q S q c _ hb]
  · rw [rj_I, rj_I, bj_q S q c _ hb]
  · rw [rj_I, rj_I, bj_q S q c _ hb]
  · rw [rd_ne _ _ (Or.inr h9), rd_ne _ _ (Or.inr hb), bg_q S q c _ hb]
  · rw [rd_ne _ _ (Or.inr h9), rd_ne _ _ (Or.inr hb), bg_q S q c _ hb]
  · rw [rd_ne _ _ (Or.inr h9), rd_ne _ _ (Or.inr hb), bg_q S q c _ hb]
  · rw [rd_ne _ _ (Or.inr h9), rd_ne _ _ (Or.inr hb), bg_q S q c _ hb]
theorem xP_bgS (S : gk_S) (q : Nat) (c : Nat → Nat) : xP (bgS S q c) = xP S := by
  unfold bgS
  rw [xP_sI, xP_sI, xP_sI, xP_sJ, xP_sJ, xP_sJ, xP_sJ, xP_sI]
theorem xP_nbS (S : gk_S) (q : Nat) (c : Nat → Nat) (n : Nat) : xP (nbS S q c n) = xP S := by
  unfold nbS
  rw [xP_sI, xP_sI, xP_bgS]
theorem nb_CT {S : gk_S} {Q : Nat → Nat} {C : Nat → Nat → Nat} {n tm : Nat} {c p : Nat → Nat} (ct : CT2 S Q C n) (hn : n < 64) (bg : BG c p tm) (wc : WC c) : CT2 (nbS S (Q n) c n) Q (fun i => if i = n then c else C i) (n + 1) := by
  obtain ⟨⟨t1, t2, t3, t4⟩, t5⟩ := ct
  refine ⟨⟨by omega, nb_601 _ _ _ _, fun i hi => by rw [xP_nbS]; exact t3 i hi, fun i hi => ?_⟩, t5⟩
  by_cases e : i = n
  · subst e
    simp only [if_true]
    exact ⟨wc, nb_CC (by have := t3 i hn; omega) bg⟩
  · simp only [if_neg e]
    exact ⟨(t4 i (by omega)).1, nb_CCq (fun q => e (t5 i n (by omega) hn q)) (by have := t3 i (by omega); omega) (t4 i (by omega)).2⟩
/-- what begins: how many there are then, which; how many went; whether it was refused -/
def bgn (C : Nat → Nat → Nat) (n mx : Nat) (c : Nat → Nat) : Nat × (Nat → Nat → Nat) × Bool × Bool :=
  if n < mx then (n + 1, (fun i => if i = n then c else C i), false, false)
  else if lnd C n 0 64 < 64 then (n, (fun i => if i = n - 1 then c else rm (lnd C n 0 64) (n - 1) C i), true, false)
  else (n, C, false, true)
theorem k_begin {S : gk_S} (h : Sh S) {F a n mx tm : Nat} (hF : 16400 ≤ F) {Q : Nat → Nat} {C : Nat → Nat → Nat} {c p : Nat → Nat} (ct : CT2 S Q C n) (pk : PK S a p) (hn : n ≤ mx) (h1 : 1 ≤ mx) (hm : mx ≤ 64) (g2 : gI S 602 279 = nI mx) (g3 : gI S 603 279 = nI tm) (bg : BG c p tm) (wc : WC c) :
    ∃ S' Q', f_X8_begin F S 279 a = some (bI (!(bgn C n mx c).2.2.2), S') ∧ FrT S S' ∧ CT2 S' Q' (bgn C n mx c).2.1 (bgn C n mx c).1 ∧ gI S' 604 279 = gI S 604 279 + bI (bgn C n mx c).2.2.1 ∧ gI S' 605 279 = gI S 605 279 + bI (bgn C n mx c).2.2.2 := by
  have ct0 := ct
  obtain ⟨⟨t1, t2, t3, t4⟩, t5⟩ := ct
  unfold bgn
  by_cases q1 : n < mx
  · simp only [if_pos q1]
    have e3 := t3 n (by omega)
    refine ⟨nbS S (Q n) c n, Q, ?_, FrT_nbS _ _ _ _, nb_CT ct0 (by omega) bg wc, ?_, ?_⟩
    · simp only [f_X8_begin, qk_true, qk_false, qv_eq, qP_some', qP_none, qc_some', qc_none, qx_inl', qx_inr', qh_inl', qh_inr', z_i279 h, t2, g2, show nI n < nI mx from nI_lt q1 (by omega), if_true, k_beg48 h e3.2.1 e3.2.2 pk (by omega) t2 e3.1 g3 bg]
      rfl
    · rw [nb_f _ _ _ _ (by omega) (by omega)]; exact (Int32.add_zero _).symm
    · rw [nb_f _ _ _ _ (by omega) (by omega)]; exact (Int32.add_zero _).symm
  · simp only [if_neg q1]
    have lt := lnd_lt C n 0 64 n (by omega) (Or.inr rfl)
    have ll := k_least (F := F) h ct0.1 n 0 F 64 (by omega) (by omega) (Or.inr rfl)
    rw [show ix 64 64 = -1 from rfl] at ll
    have ll2 : f_X8_leastNeeded F S 279 = some (ix (lnd C n 0 64) 64, S) := ll
    generalize hr : lnd C n 0 64 = r at lt ll2 ⊢
    have hnm : ¬ nI n < nI mx := nI_nlt (by omega) (by omega)
    by_cases q2 : r < 64
    · simp only [if_pos q2]
      obtain ⟨n, rfl⟩ : ∃ n', n = n' + 1 := ⟨n - 1, by omega⟩
      simp only [Nat.add_sub_cancel]
      obtain ⟨P', r1, r2⟩ := k_remove (S := S) (F := F) h hF (P := xP S 280) (Q := Q) ⟨t3, t5⟩ (by omega : r ≤ n) (by omega)
      rw [← tb_id t2] at r1
      have ft := FrT_trans (FrT_tb S P' n) (FrT_sI (tb S P' n) 279 (gI (tb S P' n) 604 279 + 1) (show 604 ≤ 8 ∨ 604 = 601 ∨ 604 = 604 ∨ 604 = 605 by omega))
      have H1 := FrT_Sh (FrT_tb S P' n) h
      have H2 := FrT_Sh ft h
      have pk2 := FrT_PK ft pk
      have c2 : CT2 (sI (tb S P' n) 604 279 (gI (tb S P' n) 604 279 + 1)) (rm r n Q) (rm r n C) n := by
        refine ⟨⟨by omega, ?_, fun i hi => r2.1 i hi, fun i hi => ?_⟩, r2.2⟩
        · rw [rd_ne _ _ (Or.inl (by decide))]
          exact gI_tb S P' n
        · have ex : ∃ j, j < n + 1 ∧ rm r n Q i = Q j ∧ rm r n C i = C j := by
            unfold rm
            by_cases e1 : r ≤ i ∧ i < n
            · exact ⟨i + 1, by omega, by rw [if_pos e1], by rw [if_pos e1]⟩
            · exact ⟨i, by omega, by rw [if_neg e1, if_neg (by omega)], by rw [if_neg e1, if_neg (by omega)]⟩
          obtain ⟨j, j1, j2, j3⟩ := ex
          rw [j2, j3]
          have := t4 j j1
          exact ⟨this.1, CC_c this.2 ⟨rfl, rfl, rfl, rfl, rfl, rfl, rfl, rfl, rfl⟩⟩
      have e3 := c2.1.2.2.1 n (by omega)
      refine ⟨nbS (sI (tb S P' n) 604 279 (gI (tb S P' n) 604 279 + 1)) (rm r n Q n) c n, rm r n Q, ?_, FrT_trans ft (FrT_nbS _ _ _ _), nb_CT c2 (by omega) bg wc, ?_, ?_⟩
      · have g3' : gI (sI (tb S P' n) 604 279 (gI (tb S P' n) 604 279 + 1)) 603 279 = nI tm := g3
        have nr : ¬ nI r = -1 := by
          rw [← ix_in q2, ix_m1 (by omega)]
          omega
        simp only [f_X8_begin, qk_true, qk_false, qv_eq, qP_some', qP_none, qc_some', qc_none, qx_inl', qx_inr', qh_inl', qh_inr', z_i279 h, t2, g2, hnm, if_false, ll2, ix_in q2, nr, r1, z_i279 H1, k_beg48 H2 e3.2.1 e3.2.2 pk2 (by omega) c2.1.2.1 e3.1 g3' bg]
        rfl
      · rw [nb_f _ _ _ _ (by omega) (by omega), rd_eq]
        rfl
      · rw [nb_f _ _ _ _ (by omega) (by omega), rd_ne _ _ (Or.inl (by decide))]
        exact (Int32.add_zero _).symm
    · simp only [if_neg q2]
      refine ⟨sI S 605 279 (gI S 605 279 + 1), Q, ?_, FrT_sI S 279 _ (by omega), ⟨⟨t1, t2, t3, t4⟩, t5⟩, (Int32.add_zero _).symm, rd_eq _ _ _ _⟩
      simp only [f_X8_begin, qk_true, qk_false, qv_eq, qP_some', qP_none, qc_some', qc_none, qx_inl', qx_inr', qh_inl', qh_inr', z_i279 h, t2, g2, hnm, if_false, ll2, ix_out q2, if_true]
      rfl
