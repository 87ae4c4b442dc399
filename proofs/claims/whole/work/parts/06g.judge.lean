theorem st_CC {S : gk_S} {q : Nat} {c d : Nat → Nat} (cc : CC S q c) (h : ∀ j, j < 5 → d j = c j) : CC (stS S q d) q d := by
  obtain ⟨e0, e1, e2, e3, e4, e5, e6, e7, e8⟩ := cc
  unfold stS
  refine ⟨?_, ?_, ?_, ?_, ?_, ?_, ?_, ?_, ?_⟩
  · rw [rd_ne _ _ (Or.inl (by decide)), rd_ne _ _ (Or.inl (by decide)), rd_ne _ _ (Or.inl (by decide)), rd_ne _ _ (Or.inl (by decide)), e0, h 0 (by omega)]
  · rw [rj_I, rj_I, rj_I, rj_I, e1, h 1 (by omega)]
  · rw [rj_I, rj_I, rj_I, rj_I, e2, h 2 (by omega)]
  · rw [rj_I, rj_I, rj_I, rj_I, e3, h 3 (by omega)]
  · rw [rj_I, rj_I, rj_I, rj_I, e4, h 4 (by omega)]
  · rw [rd_ne _ _ (Or.inl (by decide)), rd_eq]
  · rw [rd_ne _ _ (Or.inl (by decide)), rd_ne _ _ (Or.inl (by decide)), rd_ne _ _ (Or.inl (by decide)), rd_eq]
  · rw [rd_ne _ _ (Or.inl (by decide)), rd_ne _ _ (Or.inl (by decide)), rd_eq]
  · rw [rd_eq]
theorem st_CCq {S : gk_S} {q b : Nat} {c d : Nat → Nat} (hb : b ≠ q) (cc : CC S b c) : CC (stS S q d) b c := by
  refine CC_c cc ?_
  unfold stS
  refine ⟨?_, ?_, ?_, ?_, ?_, ?_, ?_, ?_, ?_⟩
  · rw [rd_ne _ _ (Or.inr hb), rd_ne _ _ (Or.inr hb), rd_ne _ _ (Or.inr hb), rd_ne _ _ (Or.inr hb)]
  · rw [rj_I, rj_I, rj_I, rj_I]
  · rw [rj_I, rj_I, rj_I, rj_I]
  · rw [rj_I, rj_I, rj_I, rj_I]
  · rw [rj_I, rj_I, rj_I, rj_I]
  · rw [rd_ne _ _ (Or.inr hb), rd_ne _ _ (Or.inr hb), rd_ne _ _ (Or.inr hb), rd_ne _ _ (Or.inr hb)]
  · rw [rd_ne _ _ (Or.inr hb), rd_ne _ _ (Or.inr hb), rd_ne _ _ (Or.inr hb), rd_ne _ _ (Or.inr hb)]
  · rw [rd_ne _ _ (Or.inr hb), rd_ne _ _ (Or.inr hb), rd_ne _ _ (Or.inr hb), rd_ne _ _ (Or.inr hb)]
  · rw [rd_ne _ _ (Or.inr hb), rd_ne _ _ (Or.inr hb), rd_ne _ _ (Or.inr hb), rd_ne _ _ (Or.inr hb)]
theorem st_f (S : gk_S) (q : Nat) (c : Nat → Nat) {f : Nat} (hf : 9 ≤ f) (b : Nat) : gI (stS S q c) f b = gI S f b := by
  unfold stS
  rw [rd_ne _ _ (Or.inl (by omega)), rd_ne _ _ (Or.inl (by omega)), rd_ne _ _ (Or.inl (by omega)), rd_ne _ _ (Or.inl (by omega))]
theorem xP_stS (S : gk_S) (q : Nat) (c : Nat → Nat) : xP (stS S q c) = xP S := by
  unfold stS
  rw [xP_sI, xP_sI, xP_sI, xP_sI]
theorem st_CT {S : gk_S} {Q : Nat → Nat} {C : Nat → Nat → Nat} {n k : Nat} {d : Nat → Nat} (ct : CT2 S Q C n) (hk : k < n) (hd : ∀ j, j < 5 → d j = C k j) (wd : WC d) : CT2 (stS S (Q k) d) Q (fun i => if i = k then d else C i) n := by
  obtain ⟨⟨t1, t2, t3, t4⟩, t5⟩ := ct
  refine ⟨⟨t1, by rw [st_f _ _ _ (by omega)]; exact t2, fun i hi => by rw [xP_stS]; exact t3 i hi, fun i hi => ?_⟩, t5⟩
  by_cases e : i = k
  · subst e
    simp only [if_true]
    exact ⟨wd, st_CC (t4 i hi).2 hd⟩
  · simp only [if_neg e]
    exact ⟨(t4 i hi).1, st_CCq (fun q => e (t5 i k (by omega) (by omega) q)) (t4 i hi).2⟩
theorem stp_lt (c p : Nat → Nat) (sd tm : Nat) : ∀ j, j < 5 → stp c p sd tm j = c j := by
  intro j hj
  unfold stp
  rw [if_neg (by omega), if_neg (by omega), if_neg (by omega), if_neg (by omega)]
/-! the action, told -/
def act (L : AL) (m : Nat) : Nat := if m < L.n then (L.r m).a else L.p
def tlS (S : gk_S) (r m n : Nat) : gk_S := if m < n then sI S 304 (ru r m) (gI S 304 (ru r m) + 1) else sI S 403 r (gI S 403 r + 1)
theorem k_tell {S : gk_S} (h : Sh S) {F r a s : Nat} (hF : 16400 ≤ F) (hr : Ba r) {L : AL} (cl : CL S r L) (wl : WL L) {p : Nat → Nat} (pk : PK S a p) (hs : s < 4) : f_X6_tell F S r a (nI s) = some (nI (act L (fst L p s)), tlS S r (fst L p s) L.n) := by
  obtain ⟨k1, k2, k3, k4, k5, k6, w0, w1, w2, w3, w4, w5, w6⟩ := pk
  have kf := k_first (F := F) h hF hr cl wl k1 k2 k3 k4 (p := p) (fun f hf => ⟨k5 f hf, by
    have : f = 0 ∨ f = 1 ∨ f = 2 ∨ f = 3 ∨ f = 4 ∨ f = 5 := by omega
    rcases this with rfl | rfl | rfl | rfl | rfl | rfl <;> omega⟩) hs
  have n16 := wl.1
  generalize hm : fst L p s = m at kf ⊢
  unfold act tlS
  by_cases q : m < L.n
  · have nm : ¬ nI m = -1 := by rw [← ix_in q, ix_m1 (by omega)]; omega
    have c3 : gI (sI S 304 (ru r m) (gI S 304 (ru r m) + 1)) 303 (ru r m) = nI (L.r m).a := (rd_ne _ _ (Or.inl (by decide))).trans (cl.2.2 m q).1
    have H := Sh_sI h 304 (ru r m) (gI S 304 (ru r m) + 1)
    simp only [f_X6_tell, qk_true, qk_false, qv_eq, qP_some', qP_none, qc_some', qc_none, qx_inl', qx_inr', qh_inl', qh_inr', z_r h hr, kf, ix_in q, nm, if_false, k_at h hr (by omega : m < 16), z_u h hr (by omega : m < 16), z_r H hr, k_at H hr (by omega : m < 16), z_u H hr (by omega : m < 16), c3, if_pos q]
  · have c3 : gI (sI S 403 r (gI S 403 r + 1)) 402 r = nI L.p := (rd_ne _ _ (Or.inl (by decide))).trans cl.2.1
    simp only [f_X6_tell, qk_true, qk_false, qv_eq, qP_some', qP_none, qc_some', qc_none, qx_inl', qx_inr', qh_inl', qh_inr', z_r h hr, kf, ix_out q, if_true, c3, if_neg q]
theorem fi_P (P : Nat → Bool) : ∀ d k, fi P d k < k + d → P (fi P d k) = true := by
  intro d
  induction d with
  | zero => intro k h; exact absurd h (Nat.lt_irrefl _)
  | succ d ih =>
    intro k
    unfold fi
    by_cases q : P k = true
    · rw [if_pos q]; exact fun _ => q
    · rw [if_neg q]; intro h; exact ih (k + 1) (by omega)
theorem plc_side {C : Nat → Nat → Nat} {p : Nat → Nat} {n : Nat} (h : plc C p n 0 < n) : 1 ≤ sideN (C (plc C p n 0)) p := by
  have := fi_P (fun i => decide (sideN (C i) p ≠ 0)) n 0 (by rw [Nat.zero_add]; exact h)
  have e := of_decide_eq_true this
  show 1 ≤ sideN (C (fi (fun i => decide (sideN (C i) p ≠ 0)) n 0)) p
  omega
/-! what becomes of a packet -/
def jst (C : Nat → Nat → Nat) (p : Nat → Nat) (k n : Nat) (rel : Bool) : Nat := if rel = true then 2 else if k < n then est (C k) p (sideN (C k) p) else nst p
theorem est_lt (c p : Nat → Nat) (sd : Nat) : est c p sd < 4 := by
  unfold est
  repeat' split
  all_goals omega
theorem nst_lt (p : Nat → Nat) : nst p < 4 := by
  unfold nst
  repeat' split
  all_goals omega
theorem jst_lt (C : Nat → Nat → Nat) (p : Nat → Nat) (k n : Nat) (rel : Bool) : jst C p k n rel < 4 := by
  unfold jst
  have := est_lt (C k) p (sideN (C k) p)
  have := nst_lt p
  repeat' split
  all_goals omega
def jtb (C : Nat → Nat → Nat) (n mx tm : Nat) (p : Nat → Nat) (k st ac : Nat) : Nat × (Nat → Nat → Nat) × Bool × Bool :=
  if ac = 1 ∧ st ≠ 2 ∧ st ≠ 3 then (if k < n then (n, (fun i => if i = k then stp (C k) p (sideN (C k) p) tm else C i), false, false) else bgn C n mx (nbg p tm)) else (n, C, false, false)
def jan (ac st : Nat) (rf : Bool) : Nat := if rf = true then 4 * st + 16 else ac + 4 * st
theorem FrT_tl (S : gk_S) (r m n : Nat) : tlS S r m n = S ∨ True := Or.inr trivial
theorem Sh_tlS {S : gk_S} (h : Sh S) (r m n : Nat) : Sh (tlS S r m n) := by
  unfold tlS
  split
  · exact Sh_sI h _ _ _
  · exact Sh_sI h _ _ _
theorem tl_f (S : gk_S) (r m n : Nat) {f : Nat} (h1 : f ≠ 304) (h2 : f ≠ 403) (b : Nat) : gI (tlS S r m n) f b = gI S f b := by
  unfold tlS
  split
  · exact rd_ne _ _ (Or.inl h1)
  · exact rd_ne _ _ (Or.inl h2)
theorem tl_o (S : gk_S) (r m n : Nat) : gJ (tlS S r m n) = gJ S ∧ gP (tlS S r m n) = gP S ∧ gL (tlS S r m n) = gL S ∧ xI (tlS S r m n) = xI S ∧ xJ (tlS S r m n) = xJ S ∧ xP (tlS S r m n) = xP S ∧ ∀ a k, isb (tlS S r m n) a k = isb S a k := by
  unfold tlS
  split <;> exact ⟨rfl, rfl, rfl, rfl, rfl, rfl, fun _ _ => rfl⟩
theorem tl_PK {S : gk_S} {r m n a : Nat} {p : Nat → Nat} (pk : PK S a p) : PK (tlS S r m n) a p := by
  obtain ⟨k1, k2, k3, k4, k5, k6, k7⟩ := pk
  obtain ⟨o1, o2, o3, o4, o5, o6, o7⟩ := tl_o S r m n
  exact ⟨(o7 _ _).trans k1, by rw [o2]; exact k2, (o7 _ _).trans k3, by rw [o3]; exact k4, fun f hf => by rw [o5]; exact k5 f hf, (tl_f S r m n (by omega) (by omega) _).trans k6, k7⟩
theorem tl_CT {S : gk_S} {r m n0 n : Nat} {Q : Nat → Nat} {C : Nat → Nat → Nat} (ct : CT2 S Q C n) : CT2 (tlS S r m n0) Q C n := by
  obtain ⟨⟨t1, t2, t3, t4⟩, t5⟩ := ct
  obtain ⟨o1, o2, o3, o4, o5, o6, o7⟩ := tl_o S r m n0
  refine ⟨⟨t1, (tl_f S r m n0 (by omega) (by omega) _).trans t2, fun i hi => by rw [o6]; exact t3 i hi, fun i hi => ⟨(t4 i hi).1, CC_c (t4 i hi).2 ?_⟩⟩, t5⟩
  exact ⟨tl_f _ _ _ _ (by omega) (by omega) _, by rw [o1], by rw [o1], by rw [o1], by rw [o1], tl_f _ _ _ _ (by omega) (by omega) _, tl_f _ _ _ _ (by omega) (by omega) _, tl_f _ _ _ _ (by omega) (by omega) _, tl_f _ _ _ _ (by omega) (by omega) _⟩
theorem k_j75 {S : gk_S} (h : Sh S) {F n mx tm r st k : Nat} (hF : 16400 ≤ F) {Q : Nat → Nat} {C : Nat → Nat → Nat} {p : Nat → Nat} (ct : CT2 S Q C n) (pk : PK S 345 p) (hn : n ≤ mx) (h1 : 1 ≤ mx) (hm : mx ≤ 64) (ht : tm ≤ 1000000000) (g2 : gI S 602 279 = nI mx) (g3 : gI S 603 279 = nI tm) (hr : Ba r) {L : AL} (cl : CL S r L) (wl : WL L) (x5 : xP S 5 0 = some r) (hs : st < 4) (hk : k < n → k = plc C p n 0 ∧ (st = 2 ∨ st = est (C k) p (sideN (C k) p))) :
    ∃ S' Q', f_X11_judge_75 F 0 (ix k n) (nI st) S = some (nI (jan (act L (fst L p st)) st (jtb C n mx tm p k st (act L (fst L p st))).2.2.2), S') ∧ FrT (tlS S r (fst L p st) L.n) S' ∧ CT2 S' Q' (jtb C n mx tm p k st (act L (fst L p st))).2.1 (jtb C n mx tm p k st (act L (fst L p st))).1 ∧ gI S' 604 279 = gI S 604 279 + bI (jtb C n mx tm p k st (act L (fst L p st))).2.2.1 ∧ gI S' 605 279 = gI S 605 279 + bI (jtb C n mx tm p k st (act L (fst L p st))).2.2.2 := by
  have kt := k_tell (F := F) h hF hr cl wl pk hs
  have acl : act L (fst L p st) < 3 := by
    unfold act
    by_cases q : fst L p st < L.n
    · rw [if_pos q]; exact (wl.2.2 _ q).1
    · rw [if_neg q]; exact wl.2.1
  generalize hm9 : fst L p st = m at kt acl ⊢
  generalize hac : act L m = ac at kt acl ⊢
  have H := Sh_tlS h r m L.n
  have pk2 := tl_PK (r := r) (m := m) (n := L.n) pk
  have ct2 := tl_CT (r := r) (m := m) (n0 := L.n) ct
  have g2' : gI (tlS S r m L.n) 602 279 = nI mx := (tl_f S r m L.n (by omega) (by omega) _).trans g2
  have g3' : gI (tlS S r m L.n) 603 279 = nI tm := (tl_f S r m L.n (by omega) (by omega) _).trans g3
  have g4' : gI (tlS S r m L.n) 604 279 = gI S 604 279 := tl_f S r m L.n (by omega) (by omega) _
  have g5' : gI (tlS S r m L.n) 605 279 = gI S 605 279 := tl_f S r m L.n (by omega) (by omega) _
  have d4 : 4 * nI st = nI (4 * st) := pk_mul 4 st
  have n64 := ct.1.1
  simp only [f_X11_judge_75, qk_true, qk_false, qv_eq, qP_some', qP_none, qc_some', qc_none, qx_inl', qx_inr', qh_inl', qh_inr', z_i0 h, z_p802_0 h, z_i5 h, z_l5 h, show inb 0 4 = true from rfl, aP, show (0 : Int32).toNatClampNeg = 0 from rfl, x5, z_p806_0 h, z_r h hr, kt, show nI ac = 1 ↔ ac = 1 from nI_eq (b := 1) (by omega) (by omega), show nI st = 2 ↔ st = 2 from nI_eq (b := 2) (by omega) (by omega), show nI st = 3 ↔ st = 3 from nI_eq (b := 3) (by omega) (by omega), d4, nI_add, z_i0 H, z_p805_0 H, z_p806_0 H, z_i279 H, ix_m1 (by omega : n < 2 ^ 31)]
  unfold jtb jan
  by_cases a1 : ac = 1
  · rw [if_pos a1]
    by_cases s2 : st = 2
    · simp only [if_pos s2, if_neg (show ¬ (ac = 1 ∧ st ≠ 2 ∧ st ≠ 3) from fun e => e.2.1 s2)]
      exact ⟨_, Q, rfl, FrT_refl _, ct2, by rw [g4']; exact (Int32.add_zero _).symm, by rw [g5']; exact (Int32.add_zero _).symm⟩
    rw [if_neg s2]
    by_cases s3 : st = 3
    · simp only [if_pos s3, if_neg (show ¬ (ac = 1 ∧ st ≠ 2 ∧ st ≠ 3) from fun e => e.2.2 s3)]
      exact ⟨_, Q, rfl, FrT_refl _, ct2, by rw [g4']; exact (Int32.add_zero _).symm, by rw [g5']; exact (Int32.add_zero _).symm⟩
    rw [if_neg s3]
    simp only [if_pos (show ac = 1 ∧ st ≠ 2 ∧ st ≠ 3 from ⟨a1, s2, s3⟩)]
    by_cases kn : k < n
    · have hk9 := hk kn
      have sd1 : 1 ≤ sideN (C k) p := by rw [hk9.1]; exact plc_side (by rw [← hk9.1]; exact kn)
      have hb : C k 0 = 6 → bhc (C k) p (sideN (C k) p) ≠ 0 := by
        intro e0 b0
        have := hk9.2.resolve_left s2
        unfold est at this
        rw [if_pos (show C k 0 = 6 ∧ bh (C k 5) (sideN (C k) p) (C k 7) (sgn (p 6)) = 0 from ⟨e0, b0⟩)] at this
        exact s3 this
      have ks := k_step (F := F) H ct2.1 pk2 kn g3' ht sd1 hb
      rw [if_neg (not_not_intro kn)]
      simp only [if_pos kn, ix_in kn, ks, qk_true, qk_false, qv_eq, qP_some', qP_none, qc_some', qc_none, qx_inl', qx_inr', qh_inl', qh_inr']
      refine ⟨_, Q, rfl, FrT_stS _ _ _, st_CT ct2 kn (stp_lt _ _ _ _) (WC_stp (ct.1.2.2.2 k kn).1 sd1 (sideN_le _ _) ht hb), ?_, ?_⟩
      · rw [st_f _ _ _ (by omega), g4']; exact (Int32.add_zero _).symm
      · rw [st_f _ _ _ (by omega), g5']; exact (Int32.add_zero _).symm
    · rw [if_pos kn]
      simp only [if_neg kn]
      obtain ⟨S', Q', b1, b2, b3, b4, b5⟩ := k_begin (F := F) H hF ct2 pk2 hn h1 hm g2' g3' (BG_nbg p tm) (WC_nbg pk.2.2.2.2.2.2 ht)
      rw [b1]
      rw [g4'] at b4
      rw [g5'] at b5
      refine ⟨S', Q', ?_, b2, b3, b4, b5⟩
      simp only [qk_true, qk_false, qv_eq, qP_some', qP_none, qc_some', qc_none, qx_inl', qx_inr', qh_inl', qh_inr']
      cases hrf : (bgn C n mx (nbg p tm)).2.2.2
      · rw [if_neg (show ¬ bI (!false) = 0 by decide), if_neg (by decide)]
      · rw [if_pos (show bI (!true) = 0 by decide), if_pos rfl, show (0 : Int32) + nI (4 * st) = nI (4 * st) from Int32.zero_add _, show nI (4 * st) + 16 = nI (4 * st + 16) from nI_add _ 16]
  · rw [if_neg a1]
    simp only [if_neg (show ¬ (ac = 1 ∧ st ≠ 2 ∧ st ≠ 3) from fun e => a1 e.1)]
    exact ⟨_, Q, rfl, FrT_refl _, ct2, by rw [g4']; exact (Int32.add_zero _).symm, by rw [g5']; exact (Int32.add_zero _).symm⟩
