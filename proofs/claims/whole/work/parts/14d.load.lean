/-! load -/
section LOD
variable {S T : gk_S} {F m k : Nat} {b : Nat → Nat}
theorem GF_MG {r : Nat} (h : MG S T) : GF r S T := by
  obtain ⟨U, h1, h2⟩ := h
  refine GF_trans (GF_M h1) ?_
  obtain ⟨a1, a2, a3, a4, a5, a6, a7, a8, a9⟩ := h2
  refine ⟨a1, a2, a3, fun f a q _ => a4 f a (fun x => q ?_), fun f a _ _ => a5 f a (by simp), fun f a _ => a6 f a (by simp), fun a _ => a7 a (by simp), fun a _ _ _ _ => a8 a (by simp), fun a _ => a9 a (by simp)⟩
  have : ∀ x ∈ [915, 918, 919], x ∈ GL := by decide
  exact this f x
theorem MG_ML (h : MG S T) {L : AL} (l : ML S k L) (hn : L.n ≤ 16) (q : k < 4) : ML T k L := by
  obtain ⟨U, h1, h2⟩ := h
  exact ML_c (MF_ML h1 l hn q) (Fr_sML h2)
/-- the model's load -/
theorem v_load (hF : 16400 ≤ F) (h : Sh S) (e2 : gI S 902 352 = nI m) (hm : m ≤ 2100) (eb : bt (xI S 353) = b) (e8 : ∀ i, b8 (xI S 353 i) = xI S 353 i) (wd9 : Wd S) (hk : k < 4) : (∃ T κ pl, f_X12_load F S 352 (nI k) = some ((-1) - nI pl, T) ∧ RA b m A0 = .inl (κ, pl) ∧ (∀ r, GF r S T) ∧ gI T 900 352 = 0 ∧ gI T 902 352 = 0 ∧ gI T 918 352 = nI κ ∧ (∀ j L, j < 4 → AL.n L ≤ 16 → ML S j L → ML T j L) ∧ xI T 360 = xI S 360 ∧ gI T 101 = gI S 101 ∧ gI T 812 = gI S 812 ∧ xJ T 372 = xJ S 372 ∧ gP T = gP S ∧ xP T = xP S) ∨ (∃ T B, f_X12_load F S 352 (nI k) = some (nI (AL.n (AS.L B)), T) ∧ RA b m A0 = .inr B ∧ (∀ r, GF r S T) ∧ gI T 900 352 = 0 ∧ gI T 902 352 = 0 ∧ gI T 918 352 = 0 ∧ ML T k (AS.L B) ∧ (∀ j L, j < 4 → j ≠ k → AL.n L ≤ 16 → ML S j L → ML T j L) ∧ (k = 0 → ∀ j, j < 17 → xI T 360 j = 0) ∧ (k ≠ 0 → xI T 360 = xI S 360) ∧ gI T 101 = gI S 101 ∧ gI T 812 = gI S 812 ∧ xJ T 372 = xJ S 372 ∧ gP T = gP S ∧ xP T = xP S) := by
  have h5 : Sh (sI (sI (sI (sI (sI S 900 352 0) 903 352 (nI m)) 902 352 0) 904 352 0) 918 352 0) := Sh_sI (Sh_sI (Sh_sI (Sh_sI (Sh_sI h _ _ _) _ _ _) _ _ _) _ _ _) _ _ _
  have fr : Frm [900, 902, 903, 904, 918] [] [] [] [] [] S (sI (sI (sI (sI (sI S 900 352 0) 903 352 (nI m)) 902 352 0) 904 352 0) 918 352 0) := Fr_sI (Fr_sI (Fr_sI (Fr_sI (Fr_sI Fr_refl (by decide) _ _) (by decide) _ _) (by decide) _ _) (by decide) _ _) (by decide) _ _
  have gf : ∀ r, GF r S (sI (sI (sI (sI (sI S 900 352 0) 903 352 (nI m)) 902 352 0) 904 352 0) 918 352 0) := fun r => GF_sI (GF_sI (GF_sI (GF_sI (GF_sI GF_refl (by decide) _ _) (by decide) _ _) (by decide) _ _) (by decide) _ _) (by decide) _ _
  have q0 : gI (sI (sI (sI (sI (sI S 900 352 0) 903 352 (nI m)) 902 352 0) 904 352 0) 918 352 0) 900 352 = 0 := by
    rw [rd_ne _ _ (Or.inl (by decide)), rd_ne _ _ (Or.inl (by decide)), rd_ne _ _ (Or.inl (by decide)), rd_ne _ _ (Or.inl (by decide))]; exact rd_eq _ _ _ _
  have q3 : gI (sI (sI (sI (sI (sI S 900 352 0) 903 352 (nI m)) 902 352 0) 904 352 0) 918 352 0) 903 352 = nI m := by
    rw [rd_ne _ _ (Or.inl (by decide)), rd_ne _ _ (Or.inl (by decide)), rd_ne _ _ (Or.inl (by decide))]; exact rd_eq _ _ _ _
  have q2 : gI (sI (sI (sI (sI (sI S 900 352 0) 903 352 (nI m)) 902 352 0) 904 352 0) 918 352 0) 902 352 = 0 := by
    rw [rd_ne _ _ (Or.inl (by decide)), rd_ne _ _ (Or.inl (by decide))]; exact rd_eq _ _ _ _
  have q4 : gI (sI (sI (sI (sI (sI S 900 352 0) 903 352 (nI m)) 902 352 0) 904 352 0) 918 352 0) 904 352 = 0 := by
    rw [rd_ne _ _ (Or.inl (by decide))]; exact rd_eq _ _ _ _
  have q18 : gI (sI (sI (sI (sI (sI S 900 352 0) 903 352 (nI m)) 902 352 0) 904 352 0) 918 352 0) 918 352 = 0 := rd_eq _ _ _ _
  have e92 : gI (sI S 900 352 0) 902 352 = nI m := by rw [rd_ne _ _ (Or.inl (by decide))]; exact e2
  unfold f_X12_load f_X12_load_15
  rw [if_neg (nI_pos (by omega)), if_pos (show nI k ≤ 3 from nI_le (b := 3) (by omega) (by omega)), z_i352 h, qk_true, m_ti0 h, qc_some', if_pos rfl, z_i352 (Sh_sI h _ _ _), qk_true, qv_eq, e92, qv_eq, qv_eq, qv_eq, qv_eq]
  generalize sI (sI (sI (sI (sI S 900 352 0) 903 352 (nI m)) 902 352 0) 904 352 0) 918 352 0 = S5 at h5 fr gf q0 q3 q2 q4 q18
  have x3 : xI S5 353 = xI S 353 := fr.2.2.2.2.2.2.1 353 (by simp)
  have md : MD S5 b m := ⟨h5, q3, hm, by rw [x3]; exact eb, by rw [x3]; exact e8, Fr_Wd fr wd9 (by simp)⟩
  obtain ⟨T5, n1, n2, n3⟩ := v_next (F := F) (p := 0) hF md q4 (Nat.zero_le _)
  have mf5 := MF_F n2
  have md5 := MF_MD mf5 md
  have ml5 : ∀ j L, j < 4 → AL.n L ≤ 16 → ML S j L → ML T5 j L := fun j L hj hn l => ML_c l ⟨(n2.2.2.2.2.2.2.1 _ (by simp)).trans (fr.2.2.2.2.2.2.1 _ (by simp)), (n2.2.2.2.2.2.2.1 _ (by simp)).trans (fr.2.2.2.2.2.2.1 _ (by simp)), (n2.2.2.2.2.2.2.1 _ (by simp)).trans (fr.2.2.2.2.2.2.1 _ (by simp)), (n2.2.2.2.2.2.2.1 _ (by simp)).trans (fr.2.2.2.2.2.2.1 _ (by simp)), (n2.2.2.2.2.2.2.2.1 _ (by simp)).trans (fr.2.2.2.2.2.2.2.1 _ (by simp)), (n2.2.2.2.2.2.2.2.1 _ (by simp)).trans (fr.2.2.2.2.2.2.2.1 _ (by simp))⟩
  have g5 : ∀ f, f ∉ [904, 914, 915, 916] → gI T5 f 352 = gI S5 f 352 := fun f hf => n2.2.2.2.1 f 352 hf
  have x5 : xI T5 360 = xI S 360 := (n2.2.2.2.2.2.2.1 _ (by simp)).trans (fr.2.2.2.2.2.2.1 _ (by simp))
  have y1 : gI T5 101 = gI S 101 := funext fun a => (n2.2.2.2.1 101 a (by decide)).trans (fr.2.2.2.1 101 a (by decide))
  have y2 : gI T5 812 = gI S 812 := funext fun a => (n2.2.2.2.1 812 a (by decide)).trans (fr.2.2.2.1 812 a (by decide))
  have y4 : gP T5 = gP S := funext fun f => funext fun a => (n2.2.2.2.2.2.1 f a (by simp)).trans (fr.2.2.2.2.2.1 f a (by simp))
  have y5 : xP T5 = xP S := funext fun a => (n2.2.2.2.2.2.2.2.2 a (by simp)).trans (fr.2.2.2.2.2.2.2.2 a (by simp))
  have y3 : xJ T5 372 = xJ S 372 := (n2.2.2.2.2.2.2.2.1 _ (by simp)).trans (fr.2.2.2.2.2.2.2.1 _ (by simp))
  rw [n1, qc_some', z_i352 md5.1, qk_true]
  rcases v_text (F := F) hF md5 n3 with ⟨T6, f1, κ, pl, r1, r2, r3, r4, r5, r6, r7⟩ | ⟨T6, B, f1, r1, r2, r3, r4, r5⟩
  · left
    have h6 := GF_Sh (GF_MG (r := 6) f1) md5.1
    have gT : ∀ f, f ∉ [904, 914, 915, 916, 918, 919] → ∀ a, gI T6 f a = gI T5 f a := by
      intro f hf a
      obtain ⟨U, u1, u2⟩ := f1
      exact (u2.2.2.2.1 f a (by simp at hf ⊢; omega)).trans (u1.2.2.2.1 f a (by simp at hf ⊢; omega))
    have x6 : xI T6 360 = xI T5 360 := by
      obtain ⟨U, u1, u2⟩ := f1
      exact (u2.2.2.2.2.2.2.1 360 (by simp)).trans (u1.2.2.2.2.2.2.1 360 (by omega))
    refine ⟨T6, κ, pl, ?_, r1, fun r => GF_trans (gf r) (GF_trans (GF_M mf5) (GF_MG f1)), ?_, ?_, r6, fun j L hj hn l => MG_ML f1 (ml5 j L hj hn l) hn hj, x6.trans x5, ?_, ?_, ?_, ?_, ?_⟩
    · rw [r5, qc_some', if_pos rfl, z_i352 h6, qk_true, qv_eq, r7]
    · rw [gT 900 (by decide), g5 900 (by decide)]; exact q0
    · rw [gT 902 (by decide), g5 902 (by decide)]; exact q2
    · exact (funext fun a => gT 101 (by decide) a).trans y1
    · exact (funext fun a => gT 812 (by decide) a).trans y2
    · obtain ⟨U, u1, u2⟩ := f1
      exact ((u2.2.2.2.2.2.2.2.1 372 (by simp)).trans (u1.2.2.2.2.2.2.2.2.2.1 372 (by decide) (by decide))).trans y3
    · obtain ⟨U, u1, u2⟩ := f1
      rw [← y4, ← u1.2.2.2.2.2.1]
      exact funext fun f => funext fun a => u2.2.2.2.2.2.1 f a (by simp)
    · obtain ⟨U, u1, u2⟩ := f1
      rw [← y5, ← u1.2.2.2.2.2.2.2.2.2.2.2]
      exact funext fun a => u2.2.2.2.2.2.2.2.2 a (by simp)
  · right
    have h6 := MF_Sh f1 md5.1
    have n16 := r4.2.2.1
    have ml4 : ML T6 4 (AS.L B) := ⟨r5.1, r5.2.1, fun i hi => by rw [show 16 * 4 + i = 64 + i by omega]; exact r5.2.2.1 i hi⟩
    obtain ⟨T7, c1, c2, c3⟩ := v_copyL (F := F) hF h6 (p := 4) (q := k) (by omega) (by omega) (by omega) n16 ml4
    have h7 := LF_Sh c2 h6
    have gT : ∀ f, f ∉ [904, 914, 915, 916] → ∀ a, gI T7 f a = gI T5 f a := by
      intro f hf a
      rw [c2.2.2.2.1]
      exact f1.2.2.2.1 f a hf
    have x7 : xI T7 360 = xI T5 360 := (c2.2.2.2.2.2.2.1 360 (by omega)).trans (f1.2.2.2.2.2.2.1 360 (by omega))
    have w7 : gP T7 = gP S := c2.2.2.2.2.2.1.trans (f1.2.2.2.2.2.1.trans y4)
    have w8 : xP T7 = xP S := c2.2.2.2.2.2.2.2.2.2.2.2.trans (f1.2.2.2.2.2.2.2.2.2.2.2.trans y5)
    have y7 : xJ T7 372 = xJ T5 372 := (c2.2.2.2.2.2.2.2.2.2.1 372 (by decide) (by decide)).trans (f1.2.2.2.2.2.2.2.2.2.1 372 (by decide) (by decide))
    have gf7 : ∀ r, GF r S T7 := fun r => GF_trans (gf r) (GF_trans (GF_M mf5) (GF_trans (GF_M f1) (GF_L c2)))
    have mlo : ∀ j L, j < 4 → j ≠ k → AL.n L ≤ 16 → ML S j L → ML T7 j L := fun j L hj hjk hn l => LF_ML c2 (MF_ML f1 (ml5 j L hj hn l) hn hj) hn hjk
    have z0 : nI k = 0 ↔ k = 0 := nI_eq (b := 0) (by omega) (by omega)
    rw [r1, qc_some', if_neg one_ne, z_i352 h6, qk_true, show (4 : Int32) = nI 4 from rfl, c1, qc_some']
    by_cases k0 : k = 0
    · obtain ⟨T8, s1, s2, s3⟩ := v_fgt (F := F) 17 0 F T7 h7 (by omega) (by omega) (fun j hj => by omega)
      have h8 := GF_Sh (GF_3 (r := 6) s2) h7
      have s1' : f_X12_forgetTold F T7 352 = some ((), T8) := s1
      have ml8 : ML T8 k (AS.L B) := ML_c c3 ⟨s2.2.2.2.2.2.2.1 _ (by decide), s2.2.2.2.2.2.2.1 _ (by decide), s2.2.2.2.2.2.2.1 _ (by decide), s2.2.2.2.2.2.2.1 _ (by decide), s2.2.2.2.2.2.2.2.1 _ (by simp), s2.2.2.2.2.2.2.2.1 _ (by simp)⟩
      have an : aI T8 355 (nI k) = nI (AL.n (AS.L B)) := by unfold aI; rw [nI_clamp (by omega)]; exact ml8.1
      have gT8 : ∀ f a, gI T8 f a = gI T7 f a := fun f a => s2.2.2.2.1 f a (by simp)
      refine ⟨T8, B, ?_, r2, fun r => GF_trans (gf7 r) (GF_3 s2), ?_, ?_, ?_, ml8, fun j L hj hjk hn l => ML_c (mlo j L hj hjk hn l) ⟨s2.2.2.2.2.2.2.1 _ (by decide), s2.2.2.2.2.2.2.1 _ (by decide), s2.2.2.2.2.2.2.1 _ (by decide), s2.2.2.2.2.2.2.1 _ (by decide), s2.2.2.2.2.2.2.2.1 _ (by simp), s2.2.2.2.2.2.2.2.1 _ (by simp)⟩, fun _ => s3, fun q => absurd k0 q, ?_, ?_, ?_, ?_, ?_⟩
      · rw [if_pos (z0.mpr k0), z_i352 h7, qk_true, s1', qc_some', z_i352 h8, qk_true, z_p906_352 h8, qP_some', z_i355 h8, qk_true, z_l355 h8, inb_n (show k < 6 by omega) (by omega), qk_true, qv_eq, an]
      · rw [gT8, gT 900 (by decide), g5 900 (by decide)]; exact q0
      · rw [gT8, gT 902 (by decide), g5 902 (by decide)]; exact q2
      · rw [gT8, gT 918 (by decide), g5 918 (by decide)]; exact q18
      · exact (funext fun a => (gT8 101 a).trans (gT 101 (by decide) a)).trans y1
      · exact (funext fun a => (gT8 812 a).trans (gT 812 (by decide) a)).trans y2
      · exact (s2.2.2.2.2.2.2.2.1 372 (by simp)).trans (y7.trans y3)
      · rw [← w7]
        exact funext fun f => funext fun a => s2.2.2.2.2.2.1 f a (by simp)
      · rw [← w8]
        exact funext fun a => s2.2.2.2.2.2.2.2.2 a (by simp)
    · have an : aI T7 355 (nI k) = nI (AL.n (AS.L B)) := by unfold aI; rw [nI_clamp (by omega)]; exact c3.1
      refine ⟨T7, B, ?_, r2, gf7, ?_, ?_, ?_, c3, mlo, fun q => absurd q k0, fun _ => x7.trans x5, ?_, ?_, y7.trans y3, w7, w8⟩
      · rw [if_neg (fun q => k0 (z0.mp q)), z_i352 h7, qk_true, z_p906_352 h7, qP_some', z_i355 h7, qk_true, z_l355 h7, inb_n (show k < 6 by omega) (by omega), qk_true, qv_eq, an]
      · rw [gT 900 (by decide), g5 900 (by decide)]; exact q0
      · rw [gT 902 (by decide), g5 902 (by decide)]; exact q2
      · rw [gT 918 (by decide), g5 918 (by decide)]; exact q18
      · exact (funext fun a => gT 101 (by decide) a).trans y1
      · exact (funext fun a => gT 812 (by decide) a).trans y2
end LOD
