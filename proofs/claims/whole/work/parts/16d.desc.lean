/-! the class descends: a level -/
section DSL
variable {S T : gk_S} {F n1 n2 tw u : Nat} {ρ1 ρ2 : Nat → AR} {α1 α2 : Nat → Nat} {mc : Nat → Nat} {cv : Nat → Nat → Nat}
theorem DO_c {c a p b q a' p' b' q' : Nat} {r : Option (Int32 × gk_S)} (h : DO ρ1 ρ2 α1 α2 u c a p b q S r) (e : ∀ x, V7 c x → (CD ρ1 ρ2 α1 α2 c a p b q x ↔ CD ρ1 ρ2 α1 α2 c a' p' b' q' x)) : DO ρ1 ρ2 α1 α2 u c a' p' b' q' S r := by
  obtain ⟨z, T, h1, h2, h3, h4, h5, h6⟩ := h
  refine ⟨z, T, h1, h2, h3, h4, fun e' => ?_, fun e' => ND_c (h6 e') e⟩
  obtain ⟨y, y1, y2⟩ := h5 e'
  exact ⟨y, LS_c y1 e, y2⟩
theorem k_d74 {c : Nat} (g : gk_S → Nat → Int32 → Int32 → Int32 → Option (Int32 × gk_S)) : ∀ d k fu (S : gk_S), Sh S → CM S ρ1 ρ2 α1 α2 u → c ≤ k → k + d = 7 → d < fu → (∀ j, c ≤ j → j < k → xJ S 258 j = lN 0) → ∃ T, f_X7_descend_74 F g fu 257 (nI k) S = some (1, T) ∧ FC S T ∧ CM T ρ1 ρ2 α1 α2 u ∧ (∀ j, j < k → xJ T 258 j = xJ S 258 j) ∧ ∀ j, c ≤ j → j < 7 → xJ T 258 j = lN 0 := by
  intro d
  induction d with
  | zero =>
    intro k fu S hs cm h0 h1 h2 hj
    obtain ⟨fu, rfl⟩ : ∃ z, fu = z + 1 := ⟨fu - 1, by omega⟩
    rw [f_X7_descend_74, if_pos (show (7 : Int32) ≤ nI k from nI_le (a := 7) (by omega) (by omega))]
    exact ⟨S, rfl, FC_refl, cm, fun _ _ => rfl, fun j j1 j2 => hj j j1 (by omega)⟩
  | succ d ih =>
    intro k fu S hs cm h0 h1 h2 hj
    obtain ⟨fu, rfl⟩ : ∃ z, fu = z + 1 := ⟨fu - 1, by omega⟩
    obtain ⟨T, r1, r2, r3, r4, r5⟩ := ih (k + 1) fu (wJ S 258 (nI k) 0) (Sh_wJ hs _ _ _) (CM_w cm _ _) (by omega) (by omega) (by omega) (fun j j1 j2 => by
      rw [rw_eq _ _ (by omega)]
      by_cases e : j = k
      · rw [if_pos e]; rfl
      · rw [if_neg e]; exact hj j j1 (by omega))
    rw [f_X7_descend_74, if_neg (show ¬ (7 : Int32) ≤ nI k from nI_ge (b := 7) (by omega) (by omega)), z_i257 hs, qk_true, z_p500_257 hs, qP_some', z_i258 hs, qk_true, z_l258 hs, inb_n (show k < 7 by omega) (by omega), qk_true, qv_eq, nI_1]
    refine ⟨T, r1, FC_trans (FC_w FC_refl _ _) r2, r3, fun j hj' => ?_, r5⟩
    rw [r4 j (by omega), rw_eq _ _ (by omega), if_neg (by omega)]
theorem k_d97 (hF : 16400 ≤ F) {c a p b q : Nat} (hs : Sh S) (pr : PR S ρ1 ρ2 α1 α2 n1 n2 mc cv tw) (cm : CM S ρ1 ρ2 α1 α2 u) (hu : u < 100000) (hc : c < 7) (ha : a < 65536) (hb : b < 65536) (hia : ∀ i, Nat.testBit a i = true → i < n1) (hib : ∀ i, Nat.testBit b i = true → i < n2) (hp : p < 3) (hq : q < 3) (g : gk_S → Nat → Int32 → Int32 → Int32 → Option (Int32 × gk_S)) (hg : ∀ S a' b', Sh S → PR S ρ1 ρ2 α1 α2 n1 n2 mc cv tw → CM S ρ1 ρ2 α1 α2 u → a' < 65536 → b' < 65536 → (∀ i, Nat.testBit a' i = true → i < n1) → (∀ i, Nat.testBit b' i = true → i < n2) → DO ρ1 ρ2 α1 α2 u (c + 1) a' p b' q S (g S 257 (nI (c + 1)) (nI (a' + 65536 * p)) (nI (b' + 65536 * q)))) : DO ρ1 ρ2 α1 α2 u c a p b q S (f_X7_descend_97 F g 257 (nI c) (nI (a + 65536 * p)) (nI (b + 65536 * q)) S) := by
  obtain ⟨cm1, cm2, cm3⟩ := id cm
  have z7 : ¬ nI c = 7 := fun e => by have := (nI_eq (b := 7) (by omega) (by omega)).mp e; omega
  have key := keyC_eq (u := u) (c := c) (h := a + 65536 * p) (t := b + 65536 * q) hc (by omega) (by omega)
  obtain ⟨m1, m2, m3, m4, m5⟩ := pr.1 c hc
  unfold f_X7_descend_97
  rw [if_neg z7, z_i257 hs, qk_true, qv_eq, cm1, qv_eq, qv_eq, qv_eq, key, qv_eq, qv_eq]
  generalize (((lN (kyC u c (a + 65536 * p) (b + 65536 * q)) * (-7046029254386353131)) : Int64).toUInt64 >>> ((32 : Int32).toInt64.toUInt64 &&& Int64.toUInt64 63)).toInt64.toInt32 = y
  obtain ⟨z, z1, z2⟩ := and1023 y
  have az : aJ S 278 (nI z) = xJ S 278 z := by unfold aJ; rw [nI_clamp (by omega)]
  rw [z2, z_p507_257 hs, qP_some', z_i278 hs, qk_true, z_l278 hs, inb_n z1 (by omega), qk_true, qv_eq, az]
  by_cases e : xJ S 278 z = lN (kyC u c (a + 65536 * p) (b + 65536 * q))
  · rw [if_pos e]
    refine ⟨false, S, rfl, FC_refl, cm, fun _ _ => rfl, fun q => absurd q (by decide), fun _ => ?_⟩
    have := cm3 z c (a + 65536 * p) (b + 65536 * q) z1 hc (by omega) (by omega) e
    rw [show (a + 65536 * p) % 65536 = a by omega, show (a + 65536 * p) / 65536 = p by omega, show (b + 65536 * q) % 65536 = b by omega, show (b + 65536 * q) / 65536 = q by omega] at this
    exact this
  · rw [if_neg e]
    unfold f_X7_goThrough
    obtain ⟨w, T, r1, r2, r3, r4, r5, r6⟩ := k_gt9 (F := F) hF hc ha hb hia hib hp hq g hg (mc c) 0 F S (-1) (-1) (by omega) (by omega) hs pr cm (fun a1 b1 l1 l2 e1 _ => absurd e1 (by
      intro e
      have h1 : nI (a1 + 65536 * p) = nI 4294967295 := e.symm
      have := (n32_eq (by omega) (by omega)).mp h1
      omega)) (fun x vx h dx => by
      have := h (by omega)
      rw [m4] at this
      omega)
    have r1' : f_X7_goThrough_9 F g F 257 (nI c) (nI (a + 65536 * p)) (nI (b + 65536 * q)) (-1) (-1) 0 S = some (bI w, T) := r1
    have ht := FC_Sh r2 hs
    rw [r1', qc_some']
    cases w
    · have nd := r6 rfl
      obtain ⟨t1, t2, t3⟩ := r3
      rw [if_pos (show bI false = 0 from rfl), z_i257 ht, qk_true, z_p507_257 ht, qP_some', z_i278 ht, qk_true, z_l278 ht, inb_n z1 (by omega), qk_true, qv_eq]
      refine ⟨false, _, rfl, Fr_wJ r2 (by decide) _ _, ⟨t1, fun i hi => ?_, fun i c' h t i1 i2 i3 i4 i5 => ?_⟩, fun k hk => ?_, fun q => absurd q (by decide), fun _ => nd⟩
      · rw [rw_eq _ _ (by omega)]
        by_cases e2 : i = z
        · rw [if_pos e2]
          refine ⟨_, ?_, rfl⟩
          unfold kyC
          omega
        · rw [if_neg e2]; exact t2 i hi
      · rw [rw_eq _ _ (by omega)] at i5
        by_cases e2 : i = z
        · rw [if_pos e2] at i5
          unfold kyC at i5
          have i6 := (l_eq (by omega) (by omega)).mp i5
          obtain ⟨q1, q2, q3⟩ := kyC_inj (u := u) hc i2 (by omega) (by omega) i3 i4 (show kyC u c (a + 65536 * p) (b + 65536 * q) = kyC u c' h t from i6)
          rw [← q1, ← q2, ← q3, show (a + 65536 * p) % 65536 = a by omega, show (a + 65536 * p) / 65536 = p by omega, show (b + 65536 * q) % 65536 = b by omega, show (b + 65536 * q) / 65536 = q by omega]
          exact nd
        · rw [if_neg e2] at i5
          exact t3 i c' h t i1 i2 i3 i4 i5
      · rw [rw_ne _ _ _ _ (by decide)]; exact r4 k hk
    · rw [if_neg (show ¬ bI true = 0 by decide)]
      exact ⟨true, T, rfl, r2, r3, r4, r5, fun q => absurd q (by decide)⟩
theorem k_lev (hF : 16400 ≤ F) {c a p b q : Nat} (hs : Sh S) (pr : PR S ρ1 ρ2 α1 α2 n1 n2 mc cv tw) (cm : CM S ρ1 ρ2 α1 α2 u) (hu : u < 100000) (hc : c ≤ 7) (ha : a < 65536) (hb : b < 65536) (hia : ∀ i, Nat.testBit a i = true → i < n1) (hib : ∀ i, Nat.testBit b i = true → i < n2) (hp : p < 3) (hq : q < 3) (g : gk_S → Nat → Int32 → Int32 → Int32 → Option (Int32 × gk_S)) (hg : c < 7 → ∀ S a' p' b' q', Sh S → PR S ρ1 ρ2 α1 α2 n1 n2 mc cv tw → CM S ρ1 ρ2 α1 α2 u → a' < 65536 → b' < 65536 → (∀ i, Nat.testBit a' i = true → i < n1) → (∀ i, Nat.testBit b' i = true → i < n2) → p' < 3 → q' < 3 → DO ρ1 ρ2 α1 α2 u (c + 1) a' p' b' q' S (g S 257 (nI (c + 1)) (nI (a' + 65536 * p')) (nI (b' + 65536 * q')))) : DO ρ1 ρ2 α1 α2 u c a p b q S (f_X7_descend F g S 257 (nI c) (nI (a + 65536 * p)) (nI (b + 65536 * q))) := by
  obtain ⟨a', p', s1, s2, s3, s4, s5, s6⟩ := k_settle (F := F) hF hs pr (sh := 0) (Or.inl rfl) hc ha hia hp
  obtain ⟨b', q', t1, t2, t3, t4, t5, t6⟩ := k_settle (F := F) hF hs pr (sh := 16) (Or.inr rfl) hc hb hib hq
  have s1' : f_X7_settle F S 257 (nI c) (nI (a + 65536 * p)) 0 = some (nI (a' + 65536 * p'), S) := s1
  have t1' : f_X7_settle F S 257 (nI c) (nI (b + 65536 * q)) 16 = some (nI (b' + 65536 * q'), S) := t1
  have ceq : ∀ x, V7 c x → (CD ρ1 ρ2 α1 α2 c a' p' b' q' x ↔ CD ρ1 ρ2 α1 α2 c a p b q x) := by
    intro x vx
    have e1 : acf ρ1 α1 a p c x = acf ρ1 α1 a' p' c x := s5 x vx
    have e2 : acf ρ2 α2 b q c x = acf ρ2 α2 b' q' c x := t5 x vx
    unfold CD
    rw [e1, e2]
  have ia' : ∀ i, Nat.testBit a' i = true → i < n1 := fun i e => hia i (s4 i e)
  have ib' : ∀ i, Nat.testBit b' i = true → i < n2 := fun i e => hib i (t4 i e)
  have zz : nI (a' + 65536 * p') = nI (b' + 65536 * q') ↔ a' + 65536 * p' = b' + 65536 * q' := nI_eq (by omega) (by omega)
  have za : nI (a' + 65536 * p') &&& 65535 = nI a' := sd_and s2
  have zb : nI (b' + 65536 * q') &&& 65535 = nI b' := sd_and t2
  have z0a : nI a' = 0 ↔ a' = 0 := nI_eq (b := 0) (by omega) (by omega)
  have z0b : nI b' = 0 ↔ b' = 0 := nI_eq (b := 0) (by omega) (by omega)
  obtain ⟨w1, w2, w3⟩ := pr.2.2.2.2.1
  refine DO_c ?_ ceq
  unfold f_X7_descend
  rw [if_neg (nI_pos (by omega)), if_pos (show nI c ≤ 7 from nI_le (b := 7) (by omega) (by omega)), z_i257 hs, qk_true, s1', qc_some', z_i257 hs, qk_true, t1', qc_some']
  have main : (a' = 0 → b' = 0 → p' ≠ q') → DO ρ1 ρ2 α1 α2 u c a' p' b' q' S (f_X7_descend_55 F g 257 (nI c) (nI (a' + 65536 * p')) (nI (b' + 65536 * q')) S) := by
    intro hne
    unfold f_X7_descend_55
    rw [za, zb]
    have go : ¬ (a' = 0 ∧ b' = 0) → DO ρ1 ρ2 α1 α2 u c a' p' b' q' S (f_X7_descend_97 F g 257 (nI c) (nI (a' + 65536 * p')) (nI (b' + 65536 * q')) S) := by
      intro hn
      have c7 : c < 7 := by
        rcases Nat.lt_or_ge c 7 with e | e
        · exact e
        · exact absurd ⟨s6 (by omega), t6 (by omega)⟩ hn
      exact k_d97 hF hs pr cm hu c7 s2 t2 ia' ib' s3 t3 g (fun S a1 b1 h1 h2 h3 h4 h5 h6 h7 => hg c7 S a1 p' b1 q' h1 h2 h3 h4 h5 h6 h7 s3 t3)
    by_cases ea : a' = 0
    · rw [if_pos (z0a.mpr ea)]
      by_cases eb : b' = 0
      · rw [if_pos (z0b.mpr eb)]
        obtain ⟨T, r1, r2, r3, r4, r5⟩ := k_d74 (F := F) (c := c) (ρ1 := ρ1) (ρ2 := ρ2) (α1 := α1) (α2 := α2) (u := u) g (7 - c) c F S hs cm (Nat.le_refl _) (by omega) (by omega) (fun j j1 j2 => by omega)
        rw [r1]
        refine ⟨true, T, rfl, r2, r3, r4, fun _ => ⟨fun _ => 0, LS_0 (fun x _ => ?_) (fun _ _ _ => rfl), r5⟩, fun e => absurd e (by decide)⟩
        unfold CD
        rw [act_0 (fun j _ => by rw [ea, Nat.zero_testBit]), act_0 (fun j _ => by rw [eb, Nat.zero_testBit])]
        exact hne ea eb
      · rw [if_neg (fun e => eb (z0b.mp e))]; exact go (fun e => eb e.2)
    · rw [if_neg (fun e => ea (z0a.mp e))]; exact go (fun e => ea e.1)
  by_cases e : a' + 65536 * p' = b' + 65536 * q'
  · have eab : a' = b' := by omega
    have epq : p' = q' := by omega
    have an := and_not a' tw s2
    have o1 := bm_lt (fun i => Nat.testBit a' i && !(Nat.testBit tw i)) 16
    have ot := bm_t (fun i => Nat.testBit a' i && !(Nat.testBit tw i)) 16
    generalize bm (fun i => Nat.testBit a' i && !(Nat.testBit tw i)) 16 = o at an o1 ot
    have zo : nI o = 0 ↔ o = 0 := nI_eq (b := 0) (by omega) (by omega)
    rw [if_pos (zz.mpr e), z_i257 hs, qk_true, qv_eq, w2, za, an]
    by_cases eo : o = 0
    · rw [if_pos (zo.mpr eo)]
      refine ⟨false, S, rfl, FC_refl, cm, fun _ _ => rfl, fun e => absurd e (by decide), fun _ x vx dx => dx ?_⟩
      rw [← eab, ← epq]
      refine fa_twin 16 0 (fun j tj => ?_)
      have j16 : j < 16 := by
        rcases Nat.lt_or_ge j 16 with c1 | c1
        · exact c1
        · rw [tb_hi16 s2 c1] at tj; exact absurd tj (by decide)
      have tt := ot j
      rw [eo, Nat.zero_testBit, decide_eq_true j16, Bool.true_and, tj, Bool.true_and] at tt
      have tw1 : Nat.testBit tw j = true := by
        cases e3 : Nat.testBit tw j
        · rw [e3] at tt; exact absurd tt (by decide)
        · rfl
      obtain ⟨_, _, x3, x4⟩ := w3 j tw1
      exact ⟨x3, x4⟩
    · rw [if_neg (fun q => eo (zo.mp q))]
      refine main (fun ea eb ep => eo ?_)
      apply mask_eq o1 (by omega)
      intro i hi
      rw [ot, ea, Nat.zero_testBit, Bool.false_and, Bool.and_false]
  · rw [if_neg (fun q => e (zz.mp q))]
    exact main (fun ea eb ep => e (by omega))
theorem k_desc (hF : 16400 ≤ F) (hu : u < 100000) : ∀ d c, c + d = 7 → ∀ S a p b q, Sh S → PR S ρ1 ρ2 α1 α2 n1 n2 mc cv tw → CM S ρ1 ρ2 α1 α2 u → a < 65536 → b < 65536 → (∀ i, Nat.testBit a i = true → i < n1) → (∀ i, Nat.testBit b i = true → i < n2) → p < 3 → q < 3 → DO ρ1 ρ2 α1 α2 u c a p b q S (f_X7_descend_r F (d + 2) S 257 (nI c) (nI (a + 65536 * p)) (nI (b + 65536 * q))) := by
  intro d
  induction d with
  | zero =>
    intro c hc S a p b q hs pr cm ha hb hia hib hp hq
    exact k_lev hF hs pr cm hu (by omega) ha hb hia hib hp hq (f_X7_descend_r F 1) (fun e => by omega)
  | succ d ih =>
    intro c hc S a p b q hs pr cm ha hb hia hib hp hq
    exact k_lev hF hs pr cm hu (by omega) ha hb hia hib hp hq (f_X7_descend_r F (d + 2)) (fun _ => ih (c + 1) (by omega))
end DSL
