/-! a packet comes to the model -/
section COMES
variable {S : gk_S} {F : Nat}
def FrM2 (S T : gk_S) : Prop := ∃ (U : Nat → Int32) (v w x : Int32), T = sI (rI (sI (sI S 936 352 w) 932 352 v) 369 U) 937 352 x
theorem FrM2_refl (S : gk_S) : FrM2 S S := ⟨xI S 369, gI S 932 352, gI S 936 352, gI S 937 352, by rw [sI_id S 936 352 rfl, sI_id S 932 352 rfl, rI_id S 369 rfl, sI_id S 937 352 rfl]⟩
theorem m_c358 (h : Sh S) (hF : 16400 ≤ F) {n mx tm k sd to st ac : Nat} {C : Nat → Nat → Nat} {p : Nat → Nat} (mt : MTb S C n) (wp : WP p) (hn : n ≤ mx) (h1 : 1 ≤ mx) (hm : mx ≤ 64) (g3 : gI S 933 352 = nI mx) (g4 : gI S 934 352 = nI tm) (ht : tm ≤ 1000000000) (hs : st < 4) (ha : ac < 3) (hk : k < n → sd = sideN (C k) p ∧ 1 ≤ sd ∧ to = (if C k 0 = 6 then mph (C k 5) sd (C k 7) (sgn (p 6)) else 0) ∧ (st ≠ 2 → st ≠ 3 → C k 0 = 6 → bhc (C k) p sd ≠ 0)) :
    ∃ S', f_X12_comes_358 F 352 (nI (p 1)) (nI (p 2)) (nI (p 3)) (nI (p 4)) (nI (p 5)) (nI (p 6)) (ix k n) (nI sd) (nI to) (nI st) (nI ac) S = some (nI (jan ac st (jtb C n mx tm p k st ac).2.2.2), S') ∧ FrM2 S S' ∧ MTb S' (jtb C n mx tm p k st ac).2.1 (jtb C n mx tm p k st ac).1 ∧ gI S' 936 352 = gI S 936 352 + bI (jtb C n mx tm p k st ac).2.2.1 ∧ gI S' 937 352 = gI S 937 352 + bI (jtb C n mx tm p k st ac).2.2.2 := by
  have mt0 := mt
  obtain ⟨t1, t2, t3⟩ := mt
  have d4 : 4 * nI st = nI (4 * st) := pk_mul 4 st
  have p6 := wp.2.2.2.2.2.2
  simp only [f_X12_comes_358, show nI ac = 1 ↔ ac = 1 from nI_eq (b := 1) (by omega) (by omega), show nI st = 2 ↔ st = 2 from nI_eq (b := 2) (by omega) (by omega), show nI st = 3 ↔ st = 3 from nI_eq (b := 3) (by omega) (by omega), d4, nI_add, ix_neg (by omega : n < 2 ^ 31), qk_true, qk_false, qv_eq, qP_some', qP_none, qc_some', qc_none, qx_inl', qx_inr', qh_inl', qh_inr', z_i352 h, m_letter (by omega : p 6 < 64)]
  unfold jtb jan
  by_cases a1 : ac = 1
  · rw [if_pos a1]
    by_cases s3 : st = 3
    · simp only [if_pos s3, if_neg (show ¬ (ac = 1 ∧ st ≠ 2 ∧ st ≠ 3) from fun e => e.2.2 s3)]
      exact ⟨_, rfl, FrM2_refl _, mt0, (Int32.add_zero _).symm, (Int32.add_zero _).symm⟩
    rw [if_neg s3]
    by_cases s2 : st = 2
    · simp only [if_pos s2, if_neg (show ¬ (ac = 1 ∧ st ≠ 2 ∧ st ≠ 3) from fun e => e.2.1 s2)]
      exact ⟨_, rfl, FrM2_refl _, mt0, (Int32.add_zero _).symm, (Int32.add_zero _).symm⟩
    rw [if_neg s2]
    simp only [if_pos (show ac = 1 ∧ st ≠ 2 ∧ st ≠ 3 from ⟨a1, s2, s3⟩)]
    by_cases kn : k < n
    · obtain ⟨e1, e2, e3, e4⟩ := hk kn
      have t3k := t3 k kn
      have sl := sideN_le (C k) p
      rw [if_neg (not_not_intro kn)]
      obtain ⟨T', k1, k2⟩ := m_steps (F := F) h t3k.2.1 (p := p) (T := xI S 369) t3k.2.2 g4 t3k.1 e2 (by omega) (e4 s2 s3)
      rw [rI_id S 369 rfl] at k1
      rw [← e3] at k1
      simp only [if_pos kn, ix_in kn, k1, qk_true, qk_false, qv_eq, qP_some', qP_none, qc_some', qc_none, qx_inl', qx_inr', qh_inl', qh_inr']
      refine ⟨rI S 369 T', rfl, ⟨T', gI S 932 352, gI S 936 352, gI S 937 352, ?_⟩, ⟨t1, t2, fun i hi => ?_⟩, (Int32.add_zero _).symm, (Int32.add_zero _).symm⟩
      · rw [sI_id S 936 352 rfl, sI_id S 932 352 rfl]
        exact (sI_id (rI S 369 T') 937 352 rfl).symm
      · by_cases e : i = k
        · subst e
          simp only [if_true]
          refine ⟨WC_stp t3k.1 (by omega) sl ht (by rw [← e1]; exact e4 s2 s3), by omega, fun j hj => ?_⟩
          rw [← e1]
          exact k2.1 j hj
        · simp only [if_neg e]
          refine ⟨(t3 i hi).1, by omega, fun j hj => ?_⟩
          show T' (9 * i + j) = _
          rw [k2.2 _ (by omega)]
          exact (t3 i hi).2.2 j hj
    · rw [if_pos kn]
      simp only [if_neg kn]
      obtain ⟨S', b1, ⟨U, v, w, b2⟩, b3, b4⟩ := m_begins (F := F) h hF mt0 wp hn h1 hm g3 g4 ht
      rw [b1]
      have H' : Sh S' := by rw [b2]; exact Sh_rI (Sh_sI (Sh_sI h _ _ _) _ _ _) _ _
      have g7 : gI S' 937 352 = gI S 937 352 := by rw [b2]; rfl
      simp only [qk_true, qk_false, qv_eq, qP_some', qP_none, qc_some', qc_none, qx_inl', qx_inr', qh_inl', qh_inr']
      cases hrf : (bgn C n mx (nbg p tm)).2.2.2
      · rw [if_neg (show ¬ bI (!false) = 0 by decide), if_neg (by decide)]
        refine ⟨S', rfl, ⟨U, v, w, gI S 937 352, ?_⟩, b3, b4, ?_⟩
        · rw [← b2, sI_id S' 937 352 g7]
        · rw [g7]; exact (Int32.add_zero _).symm
      · rw [if_pos (show bI (!true) = 0 by decide), if_pos rfl]
        simp only [z_i352 H', qk_true, qk_false, qv_eq, qP_some', qP_none, qc_some', qc_none, qx_inl', qx_inr', qh_inl', qh_inr', g7]
        refine ⟨sI S' 937 352 (gI S 937 352 + 1), by rw [show nI (4 * st) + 16 = nI (4 * st + 16) from nI_add _ 16], ⟨U, v, w, gI S 937 352 + 1, by rw [b2]⟩, b3, b4, rfl⟩
  · rw [if_neg a1]
    simp only [if_neg (show ¬ (ac = 1 ∧ st ≠ 2 ∧ st ≠ 3) from fun e => a1 e.1)]
    exact ⟨_, rfl, FrM2_refl _, mt0, (Int32.add_zero _).symm, (Int32.add_zero _).symm⟩
/-- what changes as a packet comes: the point, how often it was told, and the table -/
def told1 (T : Nat → Int32) (m n : Nat) : Nat → Int32 := upd T (if m < n then m else 16) (T (if m < n then m else 16) + 1)
theorem m_c294 (h : Sh S) (hF : 16400 ≤ F) {n mx tm k sd to st : Nat} {C : Nat → Nat → Nat} {p : Nat → Nat} (mt : MTb S C n) (wp : WP p) (hn : n ≤ mx) (h1 : 1 ≤ mx) (hm : mx ≤ 64) (g3 : gI S 933 352 = nI mx) (g4 : gI S 934 352 = nI tm) (ht : tm ≤ 1000000000) (hs : st < 4) {L : AL} (ml : ML S 0 L) (wl : WL L) (hk : k < n → sd = sideN (C k) p ∧ 1 ≤ sd ∧ to = (if C k 0 = 6 then mph (C k 5) sd (C k 7) (sgn (p 6)) else 0) ∧ (st ≠ 2 → st ≠ 3 → C k 0 = 6 → bhc (C k) p sd ≠ 0)) :
    ∃ g S', f_X12_comes_294 F 352 (nI (p 0)) (nI (p 1)) (nI (p 2)) (nI (p 3)) (nI (p 4)) (nI (p 5)) (nI (p 6)) (ix k n) (nI sd) (nI to) (nI st) S = some (nI (jan (act L (fst L p st)) st (jtb C n mx tm p k st (act L (fst L p st))).2.2.2), S') ∧ FrM2 (rI (rJ S 364 g) 360 (told1 (xI S 360) (fst L p st) L.n)) S' ∧ MTb S' (jtb C n mx tm p k st (act L (fst L p st))).2.1 (jtb C n mx tm p k st (act L (fst L p st))).1 ∧ gI S' 936 352 = gI S 936 352 + bI (jtb C n mx tm p k st (act L (fst L p st))).2.2.1 ∧ gI S' 937 352 = gI S 937 352 + bI (jtb C n mx tm p k st (act L (fst L p st))).2.2.2 := by
  have wp0 := wp
  obtain ⟨w0, w1, w2, w3, w4, w5, w6⟩ := wp
  have n16 := wl.1
  have pt := m_point (F := F) h (by omega : p 0 < 2 ^ 31) (by omega : p 1 < 2 ^ 31) (by omega : p 4 < 2 ^ 31) (by omega : p 5 < 2 ^ 31) (nI (p 2)) (nI (p 3)) (p 6)
  rw [un_nI (by omega), un_nI (by omega)] at pt
  have pe : pkt (p 0) (p 1) (p 2) (p 3) (p 4) (p 5) (p 6) = fun i => [p 0, p 1, p 2, p 3, p 4, p 5, p 6].getD i 0 := rfl
  have pf : ∀ f, f < 6 → pkt (p 0) (p 1) (p 2) (p 3) (p 4) (p 5) (p 6) f = p f := by
    intro f hf
    have : f = 0 ∨ f = 1 ∨ f = 2 ∨ f = 3 ∨ f = 4 ∨ f = 5 := by omega
    rcases this with rfl | rfl | rfl | rfl | rfl | rfl <;> rfl
  generalize hg : fl6 (xJ S 364) (pkt (p 0) (p 1) (p 2) (p 3) (p 4) (p 5) (p 6)) = g at pt
  have gf : ∀ f, f < 6 → g f = lN (p f) ∧ p f < 2 ^ 62 := by
    intro f hf
    rw [← hg, fl6_at _ _ f hf, pf f hf]
    have : f = 0 ∨ f = 1 ∨ f = 2 ∨ f = 3 ∨ f = 4 ∨ f = 5 := by omega
    refine ⟨rfl, ?_⟩
    rcases this with rfl | rfl | rfl | rfl | rfl | rfl <;> omega
  have H1 := Sh_rJ h 364 g
  have mf := m_first (S := rJ S 364 g) (F := F) H1 hF (k := 0) (by omega) (L := L) (ML_c ml ⟨rfl, rfl, rfl, rfl, rfl, rfl⟩) wl (p := p) gf hs
  rw [show nI 0 = 0 from rfl] at mf
  have acl : act L (fst L p st) < 3 := by
    unfold act
    by_cases q : fst L p st < L.n
    · rw [if_pos q]; exact (wl.2.2 _ q).1
    · rw [if_neg q]; exact wl.2.1
  generalize hm9 : fst L p st = m at mf acl ⊢
  refine ⟨g, ?_⟩
  have fin := m_c358 (S := rI (rJ S 364 g) 360 (told1 (xI S 360) m L.n)) (F := F) h hF (k := k) (sd := sd) (to := to) (st := st) (ac := act L m) mt wp0 hn h1 hm g3 g4 ht hs acl hk
  obtain ⟨S', f1, f2, f3, f4, f5⟩ := fin
  refine ⟨S', ?_, f2, f3, f4, f5⟩
  have c332 : f_X12_comes_332 F 352 (nI (p 1)) (nI (p 2)) (nI (p 3)) (nI (p 4)) (nI (p 5)) (nI (p 6)) (ix k n) (nI sd) (nI to) (nI st) (ix m L.n) (nI (if m < L.n then m else 16)) 360 (rJ S 364 g) = f_X12_comes_358 F 352 (nI (p 1)) (nI (p 2)) (nI (p 3)) (nI (p 4)) (nI (p 5)) (nI (p 6)) (ix k n) (nI sd) (nI to) (nI st) (nI (act L m)) (rI (rJ S 364 g) 360 (told1 (xI S 360) m L.n)) := by
    have j17 : (if m < L.n then m else 16) < 17 := by split <;> omega
    have a0 : aI (rJ S 364 g) 360 (nI (if m < L.n then m else 16)) = xI S 360 (if m < L.n then m else 16) := by
      unfold aI
      rw [nI_clamp (by omega)]
      rfl
    have e1 : wI (rJ S 364 g) 360 (nI (if m < L.n then m else 16)) (xI S 360 (if m < L.n then m else 16) + 1) = rI (rJ S 364 g) 360 (told1 (xI S 360) m L.n) := by
      rw [wI_r0 _ _ (by omega)]
      rfl
    have H2 := Sh_rI H1 360 (told1 (xI S 360) m L.n)
    simp only [f_X12_comes_332, qk_true, qk_false, qv_eq, qP_some', qP_none, qc_some', qc_none, qx_inl', qx_inr', qh_inl', qh_inr', z_i360 H1, z_l360 H1, inb_n j17 (by omega), a0, e1, ix_nn (by omega : L.n < 2 ^ 31), z_i352 H2, z_p907_352 H2, z_p905_352 H2, z_i356 H2, z_l356 H2, z_i354 H2, z_l354 H2, show inb 0 6 = true from rfl]
    by_cases q : m < L.n
    · have r1 : aI (rI (rJ S 364 g) 360 (told1 (xI S 360) m L.n)) 356 (nI m) = nI (L.r m).a := by
        unfold aI
        rw [nI_clamp (by omega)]
        have := (ml.2.2 m q).1
        rw [Nat.mul_zero, Nat.zero_add] at this
        exact this
      rw [if_pos q, ix_in q, inb_n (by omega : m < 96) (by omega)]
      simp only [qk_true, qk_false, qv_eq, qP_some', qP_none, qc_some', qc_none, qx_inl', qx_inr', qh_inl', qh_inr', r1]
      unfold act
      rw [if_pos q]
    · have r1 : aI (rI (rJ S 364 g) 360 (told1 (xI S 360) m L.n)) 354 0 = nI L.p := ml.2.1
      rw [if_neg q]
      simp only [r1]
      unfold act
      rw [if_neg q]
  rw [← f1, ← c332]
  simp only [f_X12_comes_294, qk_true, qk_false, qv_eq, qP_some', qP_none, qc_some', qc_none, qx_inl', qx_inr', qh_inl', qh_inr', z_i352 h, pt, z_i352 H1, mf, z_p911_352 H1, ix_nn (by omega : L.n < 2 ^ 31)]
  by_cases q : m < L.n
  · simp only [if_pos q, ix_in q]
  · simp only [if_neg q]
    rfl
end COMES
