/-! least: the class finds what is needed, and takes it over -/
section NEE
variable {S T : gk_S} {F u r q : Nat} {L : AL} {mc : Nat → Nat} {cv : Nat → Nat → Nat} {tw : Nat}
theorem CL_F {lI lJ lP rI' rJ' rP' : List Nat} (hr : Ba r) (h : CL S r L) (hn : L.n ≤ 16) (f : Frm lI lJ lP rI' rJ' rP' S T) (e1 : 401 ∉ lI ∧ 402 ∉ lI ∧ 303 ∉ lI ∧ 302 ∉ lI) (e2 : ∀ a ∈ rJ', 256 ≤ a) : CL T r L := CL_c h (f.2.2.2.1 _ _ e1.1) (f.2.2.2.1 _ _ e1.2.1) (fun i hi => Fr_sCR f ⟨e1.2.2.1, e1.2.2.2⟩ e2 hr (by omega))
theorem k_n29 (hF : 16400 ≤ F) (hr : Ba r) (w : WL L) : ∀ d fu (T : gk_S) m u, d ≤ L.n → d < fu → Sh T → PR T L.r L.r (αr L) (αr L) L.n L.n mc cv tw → SeU T u → u + d ≤ 90000 → m < 65536 → (∀ i, Nat.testBit m i = true → i < L.n) → CL T r L → ∃ T' m', f_X7_needed_29 F fu 257 r (nI m) (dwn d) T = some (nI m', T') ∧ Frm [] [508] [] [] [258, 278] [] T T' ∧ SeU T' (u + d) ∧ NDr L d m m' := by
  have b1 := w.1
  intro d
  induction d with
  | zero =>
    intro fu T m u h1 h2 hs pr se hu hm hb c
    obtain ⟨fu, rfl⟩ : ∃ z, fu = z + 1 := ⟨fu - 1, by omega⟩
    rw [f_X7_needed_29, if_pos dwn_0]
    exact ⟨T, m, rfl, Fr_refl, se, rfl⟩
  | succ d ih =>
    intro fu T m u h1 h2 hs pr se hu hm hb c
    obtain ⟨fu, rfl⟩ : ∃ z, fu = z + 1 := ⟨fu - 1, by omega⟩
    have hwb : ∀ i, Nat.testBit (wo m d) i = true → i < L.n := fun i q => hb i (wo_in q).1
    have hp := w.2.1
    obtain ⟨z, T1, q1, q2, q3, q4, q5, q6⟩ := k_differ (F := F) (a := m) (b := wo m d) (p := L.p) (q := L.p) hF hs pr se (by omega) hm (wo_lt m d) hb hwb hp hp
    have hs1 := Fr_Sh q2 hs (by simp) (by simp)
    have c1 := CL_F hr c b1 q2 (by simp) (by simp)
    have ew : nI m &&& ((1 : Int32) <<< (nI d &&& 31) ^^^ (-1)) = nI (wo m d) := by rw [shl_1 d (by omega), and_not m (2 ^ d) hm]; rfl
    rw [f_X7_needed_29, dwn_s, if_neg (show ¬ nI d < 0 from nI_pos (by omega)), ew, qv_eq, z_r hs hr, qk_true, qv_eq, c.2.1, k_sideN hm (by omega), qc_some', z_r hs hr, qk_true, qv_eq, c.2.1, k_sideN (wo_lt m d) (by omega), qc_some', z_i257 hs, qk_true, q1, qc_some', dwn_m (by omega)]
    cases z
    · rw [if_pos (show bI false = 0 from rfl)]
      obtain ⟨T2, m', r1, r2, r3, r4⟩ := ih fu T1 (wo m d) (u + 1) (by omega) (by omega) hs1 q4 q3 (by omega) (wo_lt m d) hwb c1
      exact ⟨T2, m', r1, Fr_trans q2 r2, by rw [show u + (d + 1) = u + 1 + d by omega]; exact r3, Or.inl ⟨q6 rfl, r4⟩⟩
    · rw [if_neg (show ¬ bI true = 0 by decide)]
      obtain ⟨T2, m', r1, r2, r3, r4⟩ := ih fu T1 m (u + 1) (by omega) (by omega) hs1 q4 q3 (by omega) hm hb c1
      obtain ⟨y, y1, -⟩ := q5 rfl
      exact ⟨T2, m', r1, Fr_trans q2 r2, by rw [show u + (d + 1) = u + 1 + d by omega]; exact r3, Or.inr ⟨⟨y, y1⟩, r4⟩⟩
theorem k_needed (hF : 16400 ≤ F) (hs : Sh S) (hr : Ba r) (w : WL L) (c : CL S r L) (se : SeU S u) (hu : u + 16 ≤ 90000) : ∃ T m, f_X7_needed F S 257 r = some (nI m, T) ∧ FT S T ∧ SeU T (u + L.n) ∧ NDr L L.n (lowm L.n) m := by
  have b1 := w.1
  obtain ⟨T1, ms, vs, tw, p1, p2, p3⟩ := k_prep (F := F) hF hr hr w w (Nat.le_refl _) (Nat.le_refl _) hs c c
  have h1 := FP_Sh p2 hs
  have d1 := CL_FP hr c b1 p2
  obtain ⟨T, m, q1, q2, q3, q4⟩ := k_n29 (F := F) hF hr w L.n F T1 (lowm L.n) u (Nat.le_refl _) (by omega) h1 p3 (SeU_P se p2) (by omega) (lowm_lt b1) (fun i e => by rw [lowm_t] at e; exact of_decide_eq_true e) d1
  refine ⟨T, m, ?_, Fr_trans (FT_P p2) (Fr_mono q2 (by simp) (by simp) (by simp) (by simp) (by simp) (by simp)), q3, q4⟩
  unfold f_X7_needed
  rw [z_r hs hr, qk_true, qv_eq, c.1, qv_eq, z_i257 hs, qk_true, p1, qc_some', z_r h1 hr, qk_true, qv_eq, d1.1, k_below b1, qc_some', z_r h1 hr, qk_true, qv_eq, d1.1, dwn_m' b1, q1]
/-- one rule's cells -/
def UF (v : Nat) (S T : gk_S) : Prop := gk_n T = gk_n S ∧ gk_K T = gk_K S ∧ gL T = gL S ∧ (∀ f a, a ≠ v → gI T f a = gI S f a) ∧ gJ T = gJ S ∧ gP T = gP S ∧ xI T = xI S ∧ (∀ a, a ≠ v + 1 → a ≠ v + 2 → xJ T a = xJ S a) ∧ xP T = xP S
theorem UF_refl {v : Nat} : UF v S S := ⟨rfl, rfl, rfl, fun _ _ _ => rfl, rfl, rfl, rfl, fun _ _ _ => rfl, rfl⟩
theorem UF_trans {v : Nat} {U : gk_S} (h : UF v S T) (g : UF v T U) : UF v S U := by
  obtain ⟨a1, a2, a3, a4, a5, a6, a7, a8, a9⟩ := h
  obtain ⟨b1, b2, b3, b4, b5, b6, b7, b8, b9⟩ := g
  exact ⟨b1.trans a1, b2.trans a2, b3.trans a3, fun f a p => (b4 f a p).trans (a4 f a p), b5.trans a5, b6.trans a6, b7.trans a7, fun a p o => (b8 a p o).trans (a8 a p o), b9.trans a9⟩
theorem UF_sI {v : Nat} (h : UF v S T) (f : Nat) (x : Int32) : UF v S (sI T f v x) := UF_trans h ⟨rfl, rfl, rfl, fun _ _ p => rd_ne _ _ (Or.inr p), rfl, rfl, rfl, fun _ _ _ => rfl, rfl⟩
theorem UF_wJ {v a : Nat} (h : UF v S T) (ha : a = v + 1 ∨ a = v + 2) (i : Int32) (x : Int64) : UF v S (wJ T a i x) := UF_trans h ⟨rfl, rfl, rfl, fun _ _ _ => rfl, rfl, rfl, rfl, fun _ _ _ => rw_ne _ _ _ _ (by omega), rfl⟩
theorem UF_DF {i : Nat} (hi : i < 16) (h : UF (ru r i) S T) : DF r S T := by
  obtain ⟨a1, a2, a3, a4, a5, a6, a7, a8, a9⟩ := h
  have u := ru_in (r := r) hi
  exact ⟨a1, a2, a3, fun f a _ p => a4 f a (fun e => p (e ▸ u.1)), fun f a _ => by rw [a5], a6, a7, fun a p => a8 a (fun e => p (e ▸ u.2.1)) (fun e => p (e ▸ u.2.2)), a9⟩
theorem k_to2 (hr : Ba r) (hq : Ba q) {i j : Nat} (hi : i < 16) (hj : j < 16) (ne : r ≠ q) {ρ : AR} : ∀ d f fu (T : gk_S), f + d = 6 → d < fu → Sh T → CR T (ru q j) ρ → (∀ k, k < f → xJ T (ru r i + 1) k = lN (ρ.lo k) ∧ xJ T (ru r i + 2) k = lN (ρ.hi k)) → ∃ T', f_X5_takeOver_2 F fu (ru r i) (ru q j) (nI f) T = some ((), T') ∧ UF (ru r i) T T' ∧ CR T' (ru r i) ρ ∧ gI T' 304 (ru r i) = 0 := by
  have dis : ∀ a, (q ≤ a ∧ a < q + 50) → ¬ (r ≤ a ∧ a < r + 50) := fun a h => Ba_dis hr hq ne h
  have ui := ru_in (r := r) hi
  have uj := ru_in (r := q) hj
  have n0 : ru q j ≠ ru r i := fun e => dis _ uj.1 (e ▸ ui.1)
  intro d
  induction d with
  | zero =>
    intro f fu T h1 h2 hs c h
    obtain ⟨fu, rfl⟩ : ∃ z, fu = z + 1 := ⟨fu - 1, by omega⟩
    have s1 := Sh_sI hs 302 (ru r i) (nI ρ.s)
    have e1 : gI (sI T 302 (ru r i) (nI ρ.s)) 303 (ru q j) = nI ρ.a := by rw [rd_ne _ _ (Or.inl (by decide))]; exact c.1
    rw [f_X5_takeOver_2, if_pos (show (6 : Int32) ≤ nI f from nI_le (a := 6) (by omega) (by omega)), z_u hs hq hj, qk_true, qv_eq, c.2.1, z_u hs hr hi, qk_true, qv_eq, qv_eq, e1, qv_eq, qv_eq]
    refine ⟨_, rfl, UF_sI (UF_sI (UF_sI UF_refl _ _) _ _) _ _, ⟨?_, ?_, fun k hk => h k (by omega)⟩, rd_eq _ _ _ _⟩
    · rw [rd_ne _ _ (Or.inl (by decide))]; exact rd_eq _ _ _ _
    · rw [rd_ne _ _ (Or.inl (by decide)), rd_ne _ _ (Or.inl (by decide))]; exact rd_eq _ _ _ _
  | succ d ih =>
    intro f fu T h1 h2 hs c h
    obtain ⟨fu, rfl⟩ : ∃ z, fu = z + 1 := ⟨fu - 1, by omega⟩
    have hf : f < 6 := by omega
    have li := z_ul hs hr hi
    have lj := z_ul hs hq hj
    have s1 := Sh_wJ hs (ru r i + 1) (nI f) (lN (ρ.lo f))
    have li1 := z_ul s1 hr hi
    have lj1 := z_ul s1 hq hj
    have a1 : aJ T (ru q j + 1) (nI f) = lN (ρ.lo f) := by unfold aJ; rw [nI_clamp (by omega)]; exact (c.2.2 f hf).1
    have nq1 : ru q j + 1 ≠ ru r i + 1 := fun e => n0 (by omega)
    have nq2 : ru q j + 2 ≠ ru r i + 1 := fun e => dis _ uj.2.2 (e ▸ ui.2.1)
    have nq3 : ru q j + 1 ≠ ru r i + 2 := fun e => dis _ uj.2.1 (e ▸ ui.2.2)
    have nq4 : ru q j + 2 ≠ ru r i + 2 := fun e => n0 (by omega)
    have a2 : aJ (wJ T (ru r i + 1) (nI f) (lN (ρ.lo f))) (ru q j + 2) (nI f) = lN (ρ.hi f) := by unfold aJ; rw [nI_clamp (by omega), rw_ne _ _ _ _ nq2]; exact (c.2.2 f hf).2
    have s2 := Sh_wJ s1 (ru r i + 2) (nI f) (lN (ρ.hi f))
    have c2 : CR (wJ (wJ T (ru r i + 1) (nI f) (lN (ρ.lo f))) (ru r i + 2) (nI f) (lN (ρ.hi f))) (ru q j) ρ := CR_c c ⟨rfl, rfl, by rw [rw_ne _ _ _ _ nq3, rw_ne _ _ _ _ nq1], by rw [rw_ne _ _ _ _ nq4, rw_ne _ _ _ _ nq2]⟩
    have h' : ∀ k, k < f + 1 → xJ (wJ (wJ T (ru r i + 1) (nI f) (lN (ρ.lo f))) (ru r i + 2) (nI f) (lN (ρ.hi f))) (ru r i + 1) k = lN (ρ.lo k) ∧ xJ (wJ (wJ T (ru r i + 1) (nI f) (lN (ρ.lo f))) (ru r i + 2) (nI f) (lN (ρ.hi f))) (ru r i + 2) k = lN (ρ.hi k) := by
      intro k hk
      rw [rw_ne _ _ _ _ (show ru r i + 1 ≠ ru r i + 2 by omega), rw_eq _ _ (by omega), rw_eq _ _ (by omega), rw_ne _ _ _ _ (show ru r i + 2 ≠ ru r i + 1 by omega)]
      by_cases e : k = f
      · rw [if_pos e, if_pos e, e]; exact ⟨rfl, rfl⟩
      · rw [if_neg e, if_neg e]; exact h k (by omega)
    obtain ⟨T', r1, r2, r3, r4⟩ := ih (f + 1) fu _ (by omega) (by omega) s2 c2 h'
    rw [f_X5_takeOver_2, if_neg (show ¬ (6 : Int32) ≤ nI f from nI_ge (b := 6) hf (by omega)), z_u hs hr hi, qk_true, z_up hs hr hi, qP_some', z_u hs hq hj, qk_true, z_up hs hq hj, qP_some', lj.1, qk_true, lj.2.1, inb_n hf (by omega), qk_true, qv_eq, a1, li.1, qk_true, li.2.1, inb_n hf (by omega), qk_true, qv_eq, z_uq s1 hr hi, qP_some', z_uq s1 hq hj, qP_some', lj1.2.2.1, qk_true, lj1.2.2.2, inb_n hf (by omega), qk_true, qv_eq, a2, li1.2.2.1, qk_true, li1.2.2.2, inb_n hf (by omega), qk_true, qv_eq, nI_1]
    exact ⟨T', r1, UF_trans (UF_wJ (UF_wJ UF_refl (Or.inl rfl) _ _) (Or.inr rfl) _ _) r2, r3, r4⟩
theorem k_to (hF : 16400 ≤ F) (hr : Ba r) (hq : Ba q) {i j : Nat} (hi : i < 16) (hj : j < 16) (ne : r ≠ q) {ρ : AR} (hs : Sh T) (c : CR T (ru q j) ρ) : ∃ T', f_X5_takeOver F T (ru r i) (ru q j) = some ((), T') ∧ UF (ru r i) T T' ∧ CR T' (ru r i) ρ ∧ gI T' 304 (ru r i) = 0 := k_to2 hr hq hi hj ne 6 0 F T (by omega) (by omega) hs c (fun k hk => by omega)
end NEE
