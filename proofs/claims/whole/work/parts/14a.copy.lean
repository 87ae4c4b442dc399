/-! the model copies lists; both read from the start -/
def LF (Q : Nat → Prop) (S T : gk_S) : Prop := gk_n T = gk_n S ∧ gk_K T = gk_K S ∧ gL T = gL S ∧ gI T = gI S ∧ gJ T = gJ S ∧ gP T = gP S ∧ (∀ a, a < 354 ∨ 357 < a → xI T a = xI S a) ∧ (∀ a i, (a = 354 ∨ a = 355) → ¬ Q i → xI T a i = xI S a i) ∧ (∀ a i, (a = 356 ∨ a = 357) → ¬ Q (i / 16) → xI T a i = xI S a i) ∧ (∀ a, a ≠ 358 → a ≠ 359 → xJ T a = xJ S a) ∧ (∀ a i, (a = 358 ∨ a = 359) → ¬ Q (i / 96) → xJ T a i = xJ S a i) ∧ xP T = xP S
section LFR
variable {S T U : gk_S} {Q : Nat → Prop}
theorem LF_refl : LF Q S S := ⟨rfl, rfl, rfl, rfl, rfl, rfl, fun _ _ => rfl, fun _ _ _ _ => rfl, fun _ _ _ _ => rfl, fun _ _ _ => rfl, fun _ _ _ _ => rfl, rfl⟩
theorem LF_trans (h : LF Q S T) (g : LF Q T U) : LF Q S U := by
  obtain ⟨a1, a2, a3, a4, a5, a6, a7, a8, a9, a10, a11, a12⟩ := h
  obtain ⟨b1, b2, b3, b4, b5, b6, b7, b8, b9, b10, b11, b12⟩ := g
  exact ⟨b1.trans a1, b2.trans a2, b3.trans a3, b4.trans a4, b5.trans a5, b6.trans a6, fun a q => (b7 a q).trans (a7 a q), fun a i q p => (b8 a i q p).trans (a8 a i q p), fun a i q p => (b9 a i q p).trans (a9 a i q p), fun a q p => (b10 a q p).trans (a10 a q p), fun a i q p => (b11 a i q p).trans (a11 a i q p), b12.trans a12⟩
theorem LF_wI (h : LF Q S T) {a i : Nat} (ha : ((a = 354 ∨ a = 355) ∧ Q i) ∨ ((a = 356 ∨ a = 357) ∧ Q (i / 16))) (hi : i < 2 ^ 31) (v : Int32) : LF Q S (wI T a (nI i) v) := by
  refine LF_trans h ⟨rfl, rfl, rfl, rfl, rfl, rfl, fun c q => ri_ne _ _ _ _ (by omega), fun c j q p => ?_, fun c j q p => ?_, fun _ _ _ => rfl, fun _ _ _ _ => rfl, rfl⟩
  · by_cases e : c = a
    · subst e
      rw [ri_eq _ _ hi, if_neg]
      intro e
      rcases ha with ⟨_, x⟩ | ⟨x, _⟩
      · exact p (e ▸ x)
      · omega
    · rw [ri_ne _ _ _ _ e]
  · by_cases e : c = a
    · subst e
      rw [ri_eq _ _ hi, if_neg]
      intro e
      rcases ha with ⟨x, _⟩ | ⟨_, x⟩
      · omega
      · exact p (e ▸ x)
    · rw [ri_ne _ _ _ _ e]
theorem LF_wJ (h : LF Q S T) {a i : Nat} (ha : a = 358 ∨ a = 359) (q : Q (i / 96)) (hi : i < 2 ^ 31) (v : Int64) : LF Q S (wJ T a (nI i) v) := by
  refine LF_trans h ⟨rfl, rfl, rfl, rfl, rfl, rfl, fun _ _ => rfl, fun _ _ _ _ => rfl, fun _ _ _ _ => rfl, fun c p q => rw_ne _ _ _ _ (by omega), fun c j q' p => ?_, rfl⟩
  by_cases e : c = a
  · subst e; rw [rw_eq _ _ hi, if_neg (show ¬ j = i from fun e => p (by rw [e]; exact q))]
  · rw [rw_ne _ _ _ _ e]
theorem LF_Sh (h : LF Q S T) (s : Sh S) : Sh T := by
  obtain ⟨a1, a2, a3, a4, a5, a6, a7, a8, a9, a10, a11, a12⟩ := h
  obtain ⟨s1, s2, s3, s4, s5⟩ := s
  refine ⟨a1.trans s1, fun a ha => by rw [a2, a3]; exact s2 a ha, fun q hq => by rw [a6]; exact s3 q hq, fun k hk => ?_, fun i hi => ?_⟩
  · rw [a6, a12]; exact s4 k hk
  · rw [a12]; exact s5 i hi
theorem LF_ML (h : LF Q S T) {k : Nat} {L : AL} (l : ML S k L) (hn : L.n ≤ 16) (q : ¬ Q k) : ML T k L := by
  obtain ⟨a1, a2, a3, a4, a5, a6, a7, a8, a9, a10, a11, a12⟩ := h
  obtain ⟨l1, l2, l3⟩ := l
  refine ⟨(a8 _ _ (Or.inr rfl) q).trans l1, (a8 _ _ (Or.inl rfl) q).trans l2, fun i hi => ?_⟩
  obtain ⟨m1, m2, m3⟩ := l3 i hi
  have d1 : (16 * k + i) / 16 = k := by omega
  refine ⟨(a9 _ _ (Or.inl rfl) (by rw [d1]; exact q)).trans m1, (a9 _ _ (Or.inr rfl) (by rw [d1]; exact q)).trans m2, fun f hf => ?_⟩
  have d2 : (6 * (16 * k + i) + f) / 96 = k := by omega
  exact ⟨(a11 _ _ (Or.inl rfl) (by rw [d2]; exact q)).trans (m3 f hf).1, (a11 _ _ (Or.inr rfl) (by rw [d2]; exact q)).trans (m3 f hf).2⟩
end LFR
section CPY
variable {S T : gk_S} {F : Nat}
theorem v_cr26 {x y : Nat} (hx : x < 96) (hy : y < 96) (hxy : x ≠ y) {ρ : AR} : ∀ d f fu (T : gk_S), Sh T → f + d = 6 → d < fu → (∀ j, j < 6 → xJ T 358 (6 * x + j) = lN (ρ.lo j) ∧ xJ T 359 (6 * x + j) = lN (ρ.hi j)) → (∀ j, j < f → xJ T 358 (6 * y + j) = lN (ρ.lo j) ∧ xJ T 359 (6 * y + j) = lN (ρ.hi j)) → ∃ T', f_X12_copyRule_26 F fu 352 (nI x) (nI y) (nI f) T = some ((), T') ∧ LF (fun k => k = y / 16) T T' ∧ xI T' = xI T ∧ (∀ a i, (a = 358 ∨ a = 359) → (i < 6 * y ∨ 6 * y + 6 ≤ i) → xJ T' a i = xJ T a i) ∧ ∀ j, j < 6 → xJ T' 358 (6 * y + j) = lN (ρ.lo j) ∧ xJ T' 359 (6 * y + j) = lN (ρ.hi j) := by
  intro d
  induction d with
  | zero =>
    intro f fu T h h1 h2 hx' hj
    obtain ⟨fu, rfl⟩ : ∃ q, fu = q + 1 := ⟨fu - 1, by omega⟩
    rw [f_X12_copyRule_26, if_pos (show (6 : Int32) ≤ nI f from nI_le (a := 6) (by omega) (by omega))]
    exact ⟨T, rfl, LF_refl, rfl, fun _ _ _ _ => rfl, fun j hj6 => hj j (by omega)⟩
  | succ d ih =>
    intro f fu T h h1 h2 hx' hj
    obtain ⟨fu, rfl⟩ : ∃ q, fu = q + 1 := ⟨fu - 1, by omega⟩
    have hf : f < 6 := by omega
    have ex : (6 : Int32) * nI x + nI f = nI (6 * x + f) := by rw [show (6 : Int32) = nI 6 from rfl, pk_mul, nI_add]
    have ey : (6 : Int32) * nI y + nI f = nI (6 * y + f) := by rw [show (6 : Int32) = nI 6 from rfl, pk_mul, nI_add]
    have ax : aJ T 358 (nI (6 * x + f)) = lN (ρ.lo f) := by unfold aJ; rw [nI_clamp (by omega)]; exact (hx' f hf).1
    have h' := Sh_wJ h 358 (nI (6 * y + f)) (lN (ρ.lo f))
    have ax2 : aJ (wJ T 358 (nI (6 * y + f)) (lN (ρ.lo f))) 359 (nI (6 * x + f)) = lN (ρ.hi f) := by unfold aJ; rw [nI_clamp (by omega), rw_ne _ _ _ _ (by decide)]; exact (hx' f hf).2
    have h'' := Sh_wJ h' 359 (nI (6 * y + f)) (lN (ρ.hi f))
    have rd8 : ∀ i, xJ (wJ (wJ T 358 (nI (6 * y + f)) (lN (ρ.lo f))) 359 (nI (6 * y + f)) (lN (ρ.hi f))) 358 i = if i = 6 * y + f then lN (ρ.lo f) else xJ T 358 i := fun i => by rw [rw_ne _ _ _ _ (by decide), rw_eq _ _ (by omega)]
    have rd9 : ∀ i, xJ (wJ (wJ T 358 (nI (6 * y + f)) (lN (ρ.lo f))) 359 (nI (6 * y + f)) (lN (ρ.hi f))) 359 i = if i = 6 * y + f then lN (ρ.hi f) else xJ T 359 i := fun i => by rw [rw_eq _ _ (by omega), rw_ne _ _ _ _ (by decide)]
    rw [f_X12_copyRule_26, if_neg (show ¬ (6 : Int32) ≤ nI f from nI_ge (b := 6) hf (by omega)), z_i352 h, qk_true, z_p909_352 h, qP_some', qP_some', z_i358 h, qk_true, ex, ey, z_l358 h, inb_n (show 6 * x + f < 576 by omega) (by omega), qk_true, qv_eq, ax, qk_true, inb_n (show 6 * y + f < 576 by omega) (by omega), qk_true, qv_eq]
    rw [z_p910_352 h', qP_some', qP_some', z_i359 h', qk_true, z_l359 h', inb_n (show 6 * x + f < 576 by omega) (by omega), qk_true, qv_eq, ax2, qk_true, inb_n (show 6 * y + f < 576 by omega) (by omega), qk_true, qv_eq, nI_1]
    obtain ⟨T', r1, r2, r3, r4, r5⟩ := ih (f + 1) fu _ h'' (by omega) (by omega) (fun j hj6 => by
      rw [rd8, rd9, if_neg (by omega), if_neg (by omega)]; exact hx' j hj6) (fun j hj6 => by
      rw [rd8, rd9]
      by_cases c : j = f
      · rw [if_pos (by omega), if_pos (by omega), c]; exact ⟨rfl, rfl⟩
      · rw [if_neg (by omega), if_neg (by omega)]; exact hj j (by omega))
    refine ⟨T', r1, LF_trans (LF_wJ (LF_wJ LF_refl (Or.inl rfl) (by omega) (by omega) _) (Or.inr rfl) (by omega) (by omega) _) r2, r3, fun a i ha hi => (r4 a i ha hi).trans ?_, r5⟩
    rcases ha with rfl | rfl
    · rw [rd8, if_neg (by omega)]
    · rw [rd9, if_neg (by omega)]
theorem v_copyR (hF : 16400 ≤ F) (h : Sh T) {x y : Nat} (hx : x < 96) (hy : y < 96) (hxy : x ≠ y) {ρ : AR} (r : MR T x ρ) : ∃ T', f_X12_copyRule F T 352 (nI x) (nI y) = some ((), T') ∧ LF (fun k => k = y / 16) T T' ∧ MR T' y ρ ∧ (∀ z σ, z ≠ y → MR T z σ → MR T' z σ) ∧ xI T' 354 = xI T 354 ∧ xI T' 355 = xI T 355 := by
  have h1 := Sh_wI h 356 (nI y) (nI ρ.a)
  have h2 := Sh_wI h1 357 (nI y) (nI ρ.s)
  have a6 : aI T 356 (nI x) = nI ρ.a := by unfold aI; rw [nI_clamp (by omega)]; exact r.1
  have a7 : aI (wI T 356 (nI y) (nI ρ.a)) 357 (nI x) = nI ρ.s := by unfold aI; rw [nI_clamp (by omega), ri_ne _ _ _ _ (by decide)]; exact r.2.1
  have l2 : LF (fun k => k = y / 16) T (wI (wI T 356 (nI y) (nI ρ.a)) 357 (nI y) (nI ρ.s)) := LF_wI (Q := fun k => k = y / 16) (i := y) (LF_wI (Q := fun k => k = y / 16) (i := y) LF_refl (Or.inr ⟨Or.inl rfl, rfl⟩) (by omega) _) (Or.inr ⟨Or.inr rfl, rfl⟩) (by omega) _
  have x6 : ∀ i, xI (wI (wI T 356 (nI y) (nI ρ.a)) 357 (nI y) (nI ρ.s)) 356 i = if i = y then nI ρ.a else xI T 356 i := fun i => by rw [ri_ne _ _ _ _ (by decide), ri_eq _ _ (by omega)]
  have x7 : ∀ i, xI (wI (wI T 356 (nI y) (nI ρ.a)) 357 (nI y) (nI ρ.s)) 357 i = if i = y then nI ρ.s else xI T 357 i := fun i => by rw [ri_eq _ _ (by omega), ri_ne _ _ _ _ (by decide)]
  have x4 : xI (wI (wI T 356 (nI y) (nI ρ.a)) 357 (nI y) (nI ρ.s)) 354 = xI T 354 := by rw [ri_ne _ _ _ _ (by decide), ri_ne _ _ _ _ (by decide)]
  have x5 : xI (wI (wI T 356 (nI y) (nI ρ.a)) 357 (nI y) (nI ρ.s)) 355 = xI T 355 := by rw [ri_ne _ _ _ _ (by decide), ri_ne _ _ _ _ (by decide)]
  have xj : xJ (wI (wI T 356 (nI y) (nI ρ.a)) 357 (nI y) (nI ρ.s)) = xJ T := rfl
  unfold f_X12_copyRule
  rw [z_i352 h, qk_true, z_p907_352 h, qP_some', qP_some', z_i356 h, qk_true, z_l356 h, inb_n hx (by omega), qk_true, qv_eq, a6, qk_true, inb_n hy (by omega), qk_true, qv_eq]
  rw [z_p908_352 h1, qP_some', qP_some', z_i357 h1, qk_true, z_l357 h1, inb_n hx (by omega), qk_true, qv_eq, a7, qk_true, inb_n hy (by omega), qk_true, qv_eq]
  generalize wI (wI T 356 (nI y) (nI ρ.a)) 357 (nI y) (nI ρ.s) = T1 at h2 l2 x6 x7 x4 x5 xj
  obtain ⟨T', r1, r2, r3, r4, r5⟩ := v_cr26 (F := F) hx hy hxy (ρ := ρ) 6 0 F T1 h2 (by omega) (by omega) (fun j hj => by rw [xj]; exact r.2.2 j hj) (fun j hj => by omega)
  refine ⟨T', r1, LF_trans l2 r2, ⟨by rw [r3, x6, if_pos rfl], by rw [r3, x7, if_pos rfl], r5⟩, fun z σ hz q => ⟨by rw [r3, x6, if_neg hz]; exact q.1, by rw [r3, x7, if_neg hz]; exact q.2.1, fun f hf => ?_⟩, by rw [r3, x4], by rw [r3, x5]⟩
  rw [r4 358 _ (Or.inl rfl) (by omega), r4 359 _ (Or.inr rfl) (by omega), xj]
  exact q.2.2 f hf
theorem v_cl26 (hF : 16400 ≤ F) {p q : Nat} (hp : p < 6) (hq : q < 6) (hpq : p ≠ q) {L : AL} (hn : L.n ≤ 16) : ∀ d fu (T : gk_S), Sh T → d ≤ L.n → d < fu → ML T p L → (∀ i, i < L.n - d → MR T (16 * q + i) (L.r i)) → ∃ T', f_X12_copyList_26 F fu 352 (nI p) (nI q) (nI (L.n - d)) T = some ((), T') ∧ LF (fun k => k = q) T T' ∧ (∀ i, i < L.n → MR T' (16 * q + i) (L.r i)) ∧ xI T' 354 = xI T 354 ∧ xI T' 355 = xI T 355 := by
  intro d
  induction d with
  | zero =>
    intro fu T h h1 h2 l r
    obtain ⟨fu, rfl⟩ : ∃ q, fu = q + 1 := ⟨fu - 1, by omega⟩
    have an : aI T 355 (nI p) = nI L.n := by unfold aI; rw [nI_clamp (by omega)]; exact l.1
    rw [f_X12_copyList_26, z_i352 h, qk_true, z_p906_352 h, qP_some', z_i355 h, qk_true, z_l355 h, inb_n hp (by omega), qk_true, qv_eq, an, if_pos (nI_le (by omega) (by omega))]
    exact ⟨T, rfl, LF_refl, fun i hi => r i (by omega), rfl, rfl⟩
  | succ d ih =>
    intro fu T h h1 h2 l r
    obtain ⟨fu, rfl⟩ : ∃ q, fu = q + 1 := ⟨fu - 1, by omega⟩
    have an : aI T 355 (nI p) = nI L.n := by unfold aI; rw [nI_clamp (by omega)]; exact l.1
    have e1 : (16 : Int32) * nI p + nI (L.n - (d + 1)) = nI (16 * p + (L.n - (d + 1))) := by rw [show (16 : Int32) = nI 16 from rfl, pk_mul, nI_add]
    have e2 : (16 : Int32) * nI q + nI (L.n - (d + 1)) = nI (16 * q + (L.n - (d + 1))) := by rw [show (16 : Int32) = nI 16 from rfl, pk_mul, nI_add]
    obtain ⟨T1, r1, r2, r3, r4, r5, r6⟩ := v_copyR (F := F) hF h (x := 16 * p + (L.n - (d + 1))) (y := 16 * q + (L.n - (d + 1))) (by omega) (by omega) (by omega) (l.2.2 (L.n - (d + 1)) (by omega))
    have dq : (16 * q + (L.n - (d + 1))) / 16 = q := by omega
    rw [dq] at r2
    have l1 := LF_ML r2 l hn (fun e => hpq e)
    rw [f_X12_copyList_26, z_i352 h, qk_true, z_p906_352 h, qP_some', z_i355 h, qk_true, z_l355 h, inb_n hp (by omega), qk_true, qv_eq, an, if_neg (nI_ge (by omega) (by omega)), e1, e2, r1, qc_some', nI_1, show L.n - (d + 1) + 1 = L.n - d by omega]
    obtain ⟨T', s1, s2, s3, s4, s5⟩ := ih fu T1 (LF_Sh r2 h) (by omega) (by omega) l1 (fun i hi => by
      by_cases c : i = L.n - (d + 1)
      · rw [c]; exact r3
      · exact r4 _ _ (by omega) (r i (by omega)))
    exact ⟨T', s1, LF_trans r2 s2, s3, s4.trans r5, s5.trans r6⟩
theorem v_copyL (hF : 16400 ≤ F) (h : Sh T) {p q : Nat} (hp : p < 6) (hq : q < 6) (hpq : p ≠ q) {L : AL} (hn : L.n ≤ 16) (l : ML T p L) : ∃ T', f_X12_copyList F T 352 (nI p) (nI q) = some ((), T') ∧ LF (fun k => k = q) T T' ∧ ML T' q L := by
  have h1 := Sh_wI h 354 (nI q) (nI L.p)
  have h2 := Sh_wI h1 355 (nI q) (nI L.n)
  have a4 : aI T 354 (nI p) = nI L.p := by unfold aI; rw [nI_clamp (by omega)]; exact l.2.1
  have a5 : aI (wI T 354 (nI q) (nI L.p)) 355 (nI p) = nI L.n := by unfold aI; rw [nI_clamp (by omega), ri_ne _ _ _ _ (by decide)]; exact l.1
  have l2 : LF (fun k => k = q) T (wI (wI T 354 (nI q) (nI L.p)) 355 (nI q) (nI L.n)) := LF_wI (Q := fun k => k = q) (i := q) (LF_wI (Q := fun k => k = q) (i := q) LF_refl (Or.inl ⟨Or.inl rfl, rfl⟩) (by omega) _) (Or.inl ⟨Or.inr rfl, rfl⟩) (by omega) _
  have x4 : xI (wI (wI T 354 (nI q) (nI L.p)) 355 (nI q) (nI L.n)) 354 q = nI L.p := by rw [ri_ne _ _ _ _ (by decide), ri_eq _ _ (by omega), if_pos rfl]
  have x5 : xI (wI (wI T 354 (nI q) (nI L.p)) 355 (nI q) (nI L.n)) 355 q = nI L.n := by rw [ri_eq _ _ (by omega), if_pos rfl]
  unfold f_X12_copyList
  rw [z_i352 h, qk_true, z_p905_352 h, qP_some', qP_some', z_i354 h, qk_true, z_l354 h, inb_n hp (by omega), qk_true, qv_eq, a4, qk_true, inb_n hq (by omega), qk_true, qv_eq]
  rw [z_p906_352 h1, qP_some', qP_some', z_i355 h1, qk_true, z_l355 h1, inb_n hp (by omega), qk_true, qv_eq, a5, qk_true, inb_n hq (by omega), qk_true, qv_eq]
  have lm := LF_ML l2 l hn (fun e => hpq e)
  generalize wI (wI T 354 (nI q) (nI L.p)) 355 (nI q) (nI L.n) = T1 at h2 l2 x4 x5 lm
  obtain ⟨T', s1, s2, s3, s4, s5⟩ := v_cl26 (F := F) hF hp hq hpq hn L.n F T1 h2 (Nat.le_refl _) (by omega) lm (fun i hi => by omega)
  rw [Nat.sub_self] at s1
  exact ⟨T', s1, LF_trans l2 s2, by rw [s5]; exact x5, by rw [s4]; exact x4, s3⟩
theorem v_fgt : ∀ d i fu (T : gk_S), Sh T → i + d = 17 → d < fu → (∀ j, j < i → xI T 360 j = 0) → ∃ T', f_X12_forgetTold_2 F fu 352 (nI i) T = some ((), T') ∧ Frm [] [] [] [360] [] [] T T' ∧ ∀ j, j < 17 → xI T' 360 j = 0 := by
  intro d
  induction d with
  | zero =>
    intro i fu T h h1 h2 hj
    obtain ⟨fu, rfl⟩ : ∃ q, fu = q + 1 := ⟨fu - 1, by omega⟩
    rw [f_X12_forgetTold_2, if_pos (show (17 : Int32) ≤ nI i from nI_le (a := 17) (by omega) (by omega))]
    exact ⟨T, rfl, Fr_refl, fun j j2 => hj j (by omega)⟩
  | succ d ih =>
    intro i fu T h h1 h2 hj
    obtain ⟨fu, rfl⟩ : ∃ q, fu = q + 1 := ⟨fu - 1, by omega⟩
    obtain ⟨T', r1, r2, r3⟩ := ih (i + 1) fu (wI T 360 (nI i) 0) (Sh_wI h _ _ _) (by omega) (by omega) (fun j j1 => by
      rw [ri_eq _ _ (by omega)]
      by_cases c : j = i
      · rw [if_pos c]
      · rw [if_neg c]; exact hj j (by omega))
    rw [f_X12_forgetTold_2, if_neg (show ¬ (17 : Int32) ≤ nI i from nI_ge (b := 17) (by omega) (by omega)), z_i352 h, qk_true, z_p911_352 h, qP_some', z_i360 h, qk_true, z_l360 h, inb_n (show i < 17 by omega) (by omega), qk_true, qv_eq, nI_1]
    exact ⟨T', r1, Fr_trans (Fr_rI Fr_refl (by decide) _) r2, r3⟩
end CPY
