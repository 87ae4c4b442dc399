/-! a packet comes: class and model alike -/
theorem jtb_le {C : Nat → Nat → Nat} {n mx tm : Nat} {p : Nat → Nat} {k st ac : Nat} (hn : n ≤ mx) : (jtb C n mx tm p k st ac).1 ≤ mx := by
  unfold jtb bgn
  by_cases a : ac = 1 ∧ st ≠ 2 ∧ st ≠ 3
  · rw [if_pos a]
    by_cases b : k < n
    · rw [if_pos b]; exact hn
    · rw [if_neg b]
      by_cases c : n < mx
      · rw [if_pos c]; exact c
      · rw [if_neg c]
        by_cases d : lnd C n 0 64 < 64
        · rw [if_pos d]; exact hn
        · rw [if_neg d]; exact hn
  · rw [if_neg a]; exact hn
/-- the last packet's row -/
def la7 (T : Nat → Int32) (p : Nat → Nat) : Nat → Int32 := upd (upd (upd (upd (upd (upd (upd T 0 (nI (p 0))) 1 (nI (p 1))) 2 (nI (p 2))) 3 (nI (p 3))) 4 (nI (p 4))) 5 (nI (p 5))) 6 (nI (p 6))
theorem la7_at (T : Nat → Int32) (p : Nat → Nat) : ∀ j, j < 7 → la7 T p j = nI (p j) := by
  intro j hj
  have : j = 0 ∨ j = 1 ∨ j = 2 ∨ j = 3 ∨ j = 4 ∨ j = 5 ∨ j = 6 := by omega
  rcases this with rfl | rfl | rfl | rfl | rfl | rfl | rfl <;> rfl
def co0 (S : gk_S) (p : Nat → Nat) : gk_S := rI (sI S 935 352 (gI S 935 352 + 1)) 370 (la7 (xI S 370) p)
theorem Sh_co0 {S : gk_S} (h : Sh S) (p : Nat → Nat) : Sh (co0 S p) := Sh_rI (Sh_sI h _ _ _) _ _
theorem wI_lit (S : gk_S) (a : Nat) (T : Nat → Int32) (i v : Int32) : wI (rI S a T) a i v = rI S a (upd T i.toNatClampNeg v) := by
  unfold wI
  rw [rI_rI, xI_rI, if_pos rfl]
theorem m_comes {S : gk_S} (h : Sh S) {F : Nat} (hF : 16400 ≤ F) {n : Nat} {C : Nat → Nat → Nat} {p p2 : Nat → Nat} (mt : MTb S C n) (wp : WP p) (tl : Bool) (g1 : gI S 941 352 = bI tl) (g2 : tl = true → WP p2 ∧ ∀ j, j < 5 → xI S 371 j = nI (p2 (j + 1))) : ∃ v, f_X12_comes F S 352 (nI (p 0)) (nI (p 1)) (nI (p 2)) (nI (p 3)) (nI (p 4)) (nI (p 5)) (nI (p 6)) = f_X12_comes_294 F 352 (nI (p 0)) (nI (p 1)) (nI (p 2)) (nI (p 3)) (nI (p 4)) (nI (p 5)) (nI (p 6)) (ix (jpl C n p (jrl C n p2 tl)) n) (nI (jsd C p (jpl C n p (jrl C n p2 tl)) n)) (nI (jto C p (jpl C n p (jrl C n p2 tl)) n (jsd C p (jpl C n p (jrl C n p2 tl)) n))) (nI (jst C p (jpl C n p (jrl C n p2 tl)) n (jrl C n p2 tl))) (sI (co0 S p) 938 352 v) := by
  have H := Sh_co0 h p
  have H1 := fun T => Sh_rI (Sh_sI h 935 352 (gI S 935 352 + 1)) 370 T
  have mt1 : MTb (co0 S p) C n := mt
  have e0 : wI (sI S 935 352 (gI S 935 352 + 1)) 370 0 (nI (p 0)) = rI (sI S 935 352 (gI S 935 352 + 1)) 370 (upd (xI S 370) 0 (nI (p 0))) := rfl
  have ec : rI (sI S 935 352 (gI S 935 352 + 1)) 370 (upd (upd (upd (upd (upd (upd (upd (xI S 370) 0 (nI (p 0))) (1 : Int32).toNatClampNeg (nI (p 1))) (2 : Int32).toNatClampNeg (nI (p 2))) (3 : Int32).toNatClampNeg (nI (p 3))) (4 : Int32).toNatClampNeg (nI (p 4))) (5 : Int32).toNatClampNeg (nI (p 5))) (6 : Int32).toNatClampNeg (nI (p 6))) = co0 S p := rfl
  have g1' : gI (co0 S p) 941 352 = bI tl := g1
  have n64 := mt.1
  have c113 := fun S' (h' : Sh S') (m' : MTb S' C n) rel => m_c113 (S := S') (F := F) h' hF m' wp rel
  have z35 := Sh_sI h 935 352 (gI S 935 352 + 1)
  simp only [f_X12_comes, qk_true, qk_false, qv_eq, qP_some', qP_none, qc_some', qc_none, qx_inl', qx_inr', qh_inl', qh_inr', z_i352 h, z_p939_352 z35, z_i370 z35, z_l370 z35, show inb 0 7 = true from rfl, e0, z_p939_352 (H1 _), z_i370 (H1 _), z_l370 (H1 _), show inb 1 7 = true from rfl, show inb 2 7 = true from rfl, show inb 3 7 = true from rfl, show inb 4 7 = true from rfl, show inb 5 7 = true from rfl, show inb 6 7 = true from rfl, wI_lit, ec, g1', bI0]
  cases tl
  · simp only [if_true]
    obtain ⟨v, k⟩ := c113 _ H mt1 false
    exact ⟨v, k⟩
  · obtain ⟨wp2, tr⟩ := g2 rfl
    simp only [Bool.true_eq_false, if_false]
    have a0 : aI (co0 S p) 371 0 = nI (p2 1) := tr 0 (by omega)
    have a1 : aI (co0 S p) 371 1 = nI (p2 2) := tr 1 (by omega)
    have a2 : aI (co0 S p) 371 2 = nI (p2 3) := tr 2 (by omega)
    have a3 : aI (co0 S p) 371 3 = nI (p2 4) := tr 3 (by omega)
    have a4 : aI (co0 S p) 371 4 = nI (p2 5) := tr 4 (by omega)
    have mf := m_find (F := F) H hF mt1 wp2
    simp only [z_p940_352 H, z_i371 H, z_l371 H, qk_true, qk_false, qv_eq, qP_some', qP_none, qc_some', qc_none, qx_inl', qx_inr', qh_inl', qh_inr', show inb 0 5 = true from rfl, show inb 1 5 = true from rfl, show inb 2 5 = true from rfl, show inb 3 5 = true from rfl, show inb 4 5 = true from rfl, a0, a1, a2, a3, a4, mf, ix_neg (by omega : n < 2 ^ 31)]
    generalize (if plc C p2 n 0 < n then nI (sideN (C (plc C p2 n 0)) p2) else 0) = v0
    have mt2 : MTb (sI (co0 S p) 938 352 v0) C n := mt1
    have H2 := Sh_sI H 938 352 v0
    by_cases q : plc C p2 n 0 < n
    · rw [if_neg (not_not_intro q)]
      obtain ⟨v, k⟩ := c113 _ H2 mt2 true
      rw [sI_sI] at k
      refine ⟨v, ?_⟩
      unfold jrl
      rw [decide_eq_true q]
      exact k
    · rw [if_pos q]
      obtain ⟨v, k⟩ := c113 _ H2 mt2 false
      rw [sI_sI] at k
      refine ⟨v, ?_⟩
      unfold jrl
      rw [decide_eq_false q]
      exact k
theorem jsd_ok {C : Nat → Nat → Nat} {p : Nat → Nat} {n : Nat} (rel : Bool) (h : jpl C n p rel < n) : jpl C n p rel = plc C p n 0 ∧ rel = false := by
  unfold jpl at h ⊢
  cases rel
  · exact ⟨rfl, rfl⟩
  · rw [if_pos rfl] at h; omega
theorem jc {S : gk_S} (h : Sh S) {F : Nat} (hF : 16400 ≤ F) (tb0 : Tb S) {R : Nat → Nat} {L : Nat → AL} (hC : LsC S R L) (hT : LsT S R L) {p p2 : Nat → Nat} (pk : PK S 345 p) (tl : Bool) (pk2 : tl = true → PK S 347 p2) :
    ∃ ans S1, f_X11_judge F S 0 (bI tl) = some (ans, S1) ∧ Frm [0, 1, 2, 3, 4, 5, 6, 7, 8, 601, 604, 605, 813, 304, 403] [0, 1, 2, 3, 4] [] [] [] [280] S S1 ∧
      ∀ S2, Frm [900, 941, 918, 902] [] [] [371] [372] [] S1 S2 → gI S2 941 352 = bI tl → (tl = true → ∀ j, j < 5 → xI S2 371 j = nI (p2 (j + 1))) → ∃ S3, f_X12_comes F S2 352 (nI (p 0)) (nI (p 1)) (nI (p 2)) (nI (p 3)) (nI (p 4)) (nI (p 5)) (nI (p 6)) = some (ans, S3) ∧ Frm [932, 935, 936, 937, 938] [] [] [369, 370, 360] [364] [] S2 S3 ∧ Tb S3 ∧ LsC S3 R L ∧ LsT S3 R L ∧ ∀ j, j < 7 → xI S3 370 j = nI (p j) := by
  obtain ⟨Q, C, n, mx, tm, b1, b2, b3, b4, a1, a2, a3, a4, a5, a6, a7, a8, a9, p1, p2', p3⟩ := tb0
  obtain ⟨s1, s2, s3, s4, s5⟩ := hC
  obtain ⟨wl, cl, ml⟩ := s5 0 (by omega)
  have hr := s1 0 (by omega)
  have ct : CT2 S Q C n := ⟨⟨by omega, a1, p1, fun i hi => ⟨(p3 i hi).1, (p3 i hi).2.1⟩⟩, p2'⟩
  generalize hrel : jrl C n p2 tl = rel
  generalize hk : jpl C n p rel = k
  generalize hst : jst C p k n rel = st
  have hs : st < 4 := by rw [← hst]; exact jst_lt _ _ _ _ _
  have hkk : k < n → k = plc C p n 0 ∧ rel = false := fun q => by
    rw [← hk] at q ⊢
    exact jsd_ok rel q
  have kj := k_judge0 (F := F) h hF ct.1 pk tl pk2
  rw [hrel, hk, hst] at kj
  have ct' : CT2 (sI S 813 0 (gI S 813 0 + 1)) Q C n := ct
  have pk' : PK (sI S 813 0 (gI S 813 0 + 1)) 345 p := pk
  obtain ⟨S1, Q', j1, j2, j3, j4, j5⟩ := k_j75 (F := F) (Sh_sI h 813 0 (gI S 813 0 + 1)) (k := k) (st := st) hF ct' pk' b1 b2 b3 b4 a3 a5 hr (L := L 0) cl wl (s3 0 (by omega)) hs (fun q => ⟨(hkk q).1, Or.inr (by
    rw [← hst]
    unfold jst
    rw [if_neg (by rw [(hkk q).2]; decide), if_pos q])⟩)
  generalize hm : fst (L 0) p st = m at j1 j2 j3 j4 j5
  generalize hac : act (L 0) m = ac at j1 j2 j3 j4 j5
  generalize hjt : jtb C n mx tm p k st ac = jt at j1 j2 j3 j4 j5
  have jle : jt.1 ≤ mx := by rw [← hjt]; exact jtb_le b1
  have F1 : Frm [0, 1, 2, 3, 4, 5, 6, 7, 8, 601, 604, 605, 813, 304, 403] [0, 1, 2, 3, 4] [] [] [] [280] S (tlS (sI S 813 0 (gI S 813 0 + 1)) (R 0) m (L 0).n) := by
    unfold tlS
    split
    · exact Fr_sI (Fr_sI Fr_refl (by decide) _ _) (by decide) _ _
    · exact Fr_sI (Fr_sI Fr_refl (by decide) _ _) (by decide) _ _
  have F2 : Frm [0, 1, 2, 3, 4, 5, 6, 7, 8, 601, 604, 605, 813, 304, 403] [0, 1, 2, 3, 4] [] [] [] [280] S S1 := Fr_trans F1 (FrT_Fr j2 (by decide) (by decide) (by decide))
  refine ⟨nI (jan ac st jt.2.2.2), S1, by rw [kj, j1], F2, fun S2 F3 g1 g2 => ?_⟩
  have H1 := Fr_Sh F2 h (by decide) (by decide)
  have H2 := Fr_Sh F3 H1 (by decide) (by decide)
  have I12 : ∀ f a, f ∉ [900, 941, 918, 902] → gI S2 f a = gI S1 f a := F3.2.2.2.1
  have I01 : ∀ f a, f ∉ [0, 1, 2, 3, 4, 5, 6, 7, 8, 601, 604, 605, 813, 304, 403] → gI S1 f a = gI S f a := F2.2.2.2.1
  have I02 : ∀ f a, f ∉ [0, 1, 2, 3, 4, 5, 6, 7, 8, 601, 604, 605, 813, 304, 403, 900, 941, 918, 902] → gI S2 f a = gI S f a := fun f a q => (I12 f a (fun e => q (by
    have : ∀ f ∈ [900, 941, 918, 902], f ∈ [0, 1, 2, 3, 4, 5, 6, 7, 8, 601, 604, 605, 813, 304, 403, 900, 941, 918, 902] := by decide
    exact this f e))).trans (I01 f a (fun e => q (by
    have : ∀ f ∈ [0, 1, 2, 3, 4, 5, 6, 7, 8, 601, 604, 605, 813, 304, 403], f ∈ [0, 1, 2, 3, 4, 5, 6, 7, 8, 601, 604, 605, 813, 304, 403, 900, 941, 918, 902] := by decide
    exact this f e)))
  have x369 : xI S2 369 = xI S 369 := (F3.2.2.2.2.2.2.1 369 (by decide)).trans (F2.2.2.2.2.2.2.1 369 (by decide))
  have x360 : xI S2 360 = xI S 360 := (F3.2.2.2.2.2.2.1 360 (by decide)).trans (F2.2.2.2.2.2.2.1 360 (by decide))
  have mt2 : MTb S2 C n := ⟨by omega, (I02 932 352 (by decide)).trans a2, fun i hi => ⟨(p3 i hi).1, by omega, fun j hj => by rw [x369]; exact (p3 i hi).2.2 j hj⟩⟩
  have C2 : LsC S2 R L := Fr_LsC F3 (Fr_LsC F2 ⟨s1, s2, s3, s4, s5⟩ (by decide) (by decide) (by decide) (by decide) (by decide)) (by decide) (by decide) (by decide) (by decide) (by decide)
  obtain ⟨v, mc⟩ := m_comes (F := F) H2 hF mt2 pk.2.2.2.2.2.2 tl g1 (fun e => ⟨(pk2 e).2.2.2.2.2.2, g2 e⟩) (p := p) (p2 := p2)
  rw [hrel, hk, hst] at mc
  have H3 := Sh_sI (Sh_co0 H2 p) 938 352 v
  have F4 : Frm [932, 935, 936, 937, 938] [] [] [369, 370, 360] [364] [] S2 (sI (co0 S2 p) 938 352 v) := Fr_sI (Fr_rI (Fr_sI Fr_refl (by decide) _ _) (by decide) _) (by decide) _ _
  have ml3 : ML (sI (co0 S2 p) 938 352 v) 0 (L 0) := (C2.2.2.2.2 0 (by omega)).2.2
  obtain ⟨g, S3, c1, ⟨U, x1, x2, x3, c2⟩, c3, c4, c5⟩ := m_c294 (S := sI (co0 S2 p) 938 352 v) (F := F) H3 hF (k := k) (sd := jsd C p k n) (to := jto C p k n (jsd C p k n)) (st := st) (C := C) (n := n) (mx := mx) (tm := tm) (p := p) mt2 pk.2.2.2.2.2.2 b1 b2 b3 ((I02 933 352 (by decide)).trans a4) ((I02 934 352 (by decide)).trans a6) b4 hs ml3 wl (fun q => by
    have q1 := hkk q
    have sd1 : 1 ≤ sideN (C k) p := by rw [q1.1]; exact plc_side (by rw [← q1.1]; exact q)
    unfold jsd jto
    rw [if_pos q, if_pos q]
    refine ⟨rfl, sd1, rfl, fun _ n3 e0 b0 => n3 ?_⟩
    rw [← hst]
    unfold jst est
    rw [if_neg (by rw [q1.2]; decide), if_pos q, if_pos (show C k 0 = 6 ∧ bh (C k 5) (sideN (C k) p) (C k 7) (sgn (p 6)) = 0 from ⟨e0, b0⟩)])
  rw [hm, hac, hjt] at c1 c3 c4 c5
  rw [hm] at c2
  have F5 : Frm [932, 935, 936, 937, 938] [] [] [369, 370, 360] [364] [] S2 S3 := by
    rw [c2]
    exact Fr_sI (Fr_rI (Fr_sI (Fr_sI (Fr_rI (Fr_rJ F4 (by decide) _) (by decide) _) (by decide) _ _) (by decide) _ _) (by decide) _) (by decide) _ _
  have I23 : ∀ f a, f ∉ [932, 935, 936, 937, 938] → gI S3 f a = gI S2 f a := F5.2.2.2.1
  have I13 : ∀ f a, f ∉ [932, 935, 936, 937, 938] → f ∉ [900, 941, 918, 902] → gI S3 f a = gI S1 f a := fun f a q q' => (I23 f a q).trans (I12 f a q')
  have J13 : gJ S3 = gJ S1 := by
    funext f a
    exact (F5.2.2.2.2.1 f a (by simp)).trans (F3.2.2.2.2.1 f a (by simp))
  have P13 : xP S3 = xP S1 := by
    funext a
    exact (F5.2.2.2.2.2.2.2.2 a (by simp)).trans (F3.2.2.2.2.2.2.2.2 a (by simp))
  have e935 : gI S3 935 352 = gI S2 935 352 + 1 := by rw [c2]; rfl
  have e360 : xI S3 360 = told1 (xI S 360) m (L 0).n := by
    rw [c2]
    show told1 (xI S2 360) m (L 0).n = _
    rw [x360]
  have e370 : xI S3 370 = la7 (xI S2 370) p := by rw [c2]; rfl
  refine ⟨S3, by rw [mc, c1], F5, ?_, ?_, ?_, fun j hj => by rw [e370]; exact la7_at _ _ j hj⟩
  · refine ⟨Q', jt.2.1, jt.1, mx, tm, jle, b2, b3, b4, (I13 601 279 (by decide) (by decide)).trans j3.1.2.1, c3.2.1, (I13 602 279 (by decide) (by decide)).trans ((I01 602 279 (by decide)).trans a3), (I23 933 352 (by decide)).trans ((I02 933 352 (by decide)).trans a4), (I13 603 279 (by decide) (by decide)).trans ((I01 603 279 (by decide)).trans a5), (I23 934 352 (by decide)).trans ((I02 934 352 (by decide)).trans a6), ?_, ?_, ?_, fun i hi => by rw [P13]; exact j3.1.2.2.1 i hi, j3.2, fun i hi => ⟨(c3.2.2 i hi).1, CC_c (j3.1.2.2.2 i hi).2 ?_, (c3.2.2 i hi).2.2⟩⟩
    · rw [I13 604 279 (by decide) (by decide), j4, c4]
      have e1 : gI (sI S 813 0 (gI S 813 0 + 1)) 604 279 = gI S 604 279 := rfl
      have e2 : gI (sI (co0 S2 p) 938 352 v) 936 352 = gI S2 936 352 := rfl
      rw [e1, e2, I02 936 352 (by decide), a7]
    · rw [I13 605 279 (by decide) (by decide), j5, c5]
      have e1 : gI (sI S 813 0 (gI S 813 0 + 1)) 605 279 = gI S 605 279 := rfl
      have e2 : gI (sI (co0 S2 p) 938 352 v) 937 352 = gI S2 937 352 := rfl
      rw [e1, e2, I02 937 352 (by decide), a8]
    · rw [e935, I02 935 352 (by decide), ← a9, I13 813 0 (by decide) (by decide), j2.2.2.2.2.2.2.2.1 813 0 (by decide) (by decide) (by decide) (by decide), tl_f _ _ _ _ (by decide) (by decide), rd_eq]
    · exact ⟨I13 _ _ (by decide) (by decide), by rw [J13], by rw [J13], by rw [J13], by rw [J13], I13 _ _ (by decide) (by decide), I13 _ _ (by decide) (by decide), I13 _ _ (by decide) (by decide), I13 _ _ (by decide) (by decide)⟩
  · exact Fr_LsC F5 C2 (by decide) (by decide) (by decide) (by decide) (by decide)
  · have t403 : ∀ a, gI S3 403 a = gI (tlS (sI S 813 0 (gI S 813 0 + 1)) (R 0) m (L 0).n) 403 a := fun a => (I13 403 a (by decide) (by decide)).trans (j2.2.2.2.2.2.2.2.1 403 a (by decide) (by decide) (by decide) (by decide))
    have t304 : ∀ a, gI S3 304 a = gI (tlS (sI S 813 0 (gI S 813 0 + 1)) (R 0) m (L 0).n) 304 a := fun a => (I13 304 a (by decide) (by decide)).trans (j2.2.2.2.2.2.2.2.1 304 a (by decide) (by decide) (by decide) (by decide))
    intro q hq
    have nq := (s5 q hq).1.1
    have n0 := wl.1
    rw [e360, t403]
    have Tq := hT q hq
    have T0 := hT 0 (by omega)
    rw [if_pos rfl] at T0
    unfold told1 tlS
    by_cases mq : m < (L 0).n
    · simp only [if_pos mq]
      refine ⟨?_, fun i hi => ?_⟩
      · rw [rd_ne _ _ (Or.inl (by decide)), rd_ne _ _ (Or.inl (by decide)), Tq.1]
        by_cases z : q = 0
        · rw [if_pos z, if_pos z]
          unfold upd
          rw [if_neg (by omega)]
        · rw [if_neg z, if_neg z]
      · rw [t304]
        unfold tlS
        rw [if_pos mq]
        by_cases z : q = 0
        · subst z
          rw [if_pos rfl]
          unfold upd
          by_cases im : i = m
          · subst im
            rw [if_pos rfl, rd_eq, rd_ne _ _ (Or.inl (by decide)), T0.2 i hi, if_pos rfl]
          · rw [if_neg im, rd_ne _ _ (Or.inr (fun e => im (ru_inj hr hr (by omega) (by omega) e).2)), rd_ne _ _ (Or.inl (by decide)), T0.2 i hi, if_pos rfl]
        · rw [if_neg z, rd_ne _ _ (Or.inr (fun e => z (s2 q 0 (by omega) (by omega) (ru_inj (s1 q (by omega)) hr (by omega) (by omega) e).1))), rd_ne _ _ (Or.inl (by decide)), Tq.2 i hi, if_neg z]
    · simp only [if_neg mq]
      refine ⟨?_, fun i hi => ?_⟩
      · by_cases z : q = 0
        · subst z
          rw [if_pos rfl, rd_eq, rd_ne _ _ (Or.inl (by decide)), T0.1]
          unfold upd
          rw [if_pos rfl]
        · rw [if_neg z, rd_ne _ _ (Or.inr (fun e => z (s2 q 0 (by omega) (by omega) e))), rd_ne _ _ (Or.inl (by decide)), Tq.1, if_neg z]
      · rw [t304]
        unfold tlS
        rw [if_neg mq, rd_ne _ _ (Or.inl (by decide)), rd_ne _ _ (Or.inl (by decide)), Tq.2 i hi]
        by_cases z : q = 0
        · rw [if_pos z, if_pos z]
          unfold upd
          rw [if_neg (by omega)]
        · rw [if_neg z, if_neg z]
