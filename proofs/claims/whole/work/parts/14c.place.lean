/-! a list is placed: what of the heap stays -/
def GL : List Nat := [101, 701, 702, 703, 704, 705, 706, 707, 708, 709, 710, 812, 900, 902, 903, 904, 914, 915, 916, 918, 919]
def GF (r : Nat) (S T : gk_S) : Prop := gk_n T = gk_n S ∧ gk_K T = gk_K S ∧ gL T = gL S ∧ (∀ f a, f ∉ GL → ¬ (r ≤ a ∧ a < r + 50) → gI T f a = gI S f a) ∧ (∀ f a, ¬ (701 ≤ f ∧ f ≤ 710) → f ≠ 917 → gJ T f a = gJ S f a) ∧ (∀ f a, f ≠ 810 → gP T f a = gP S f a) ∧ (∀ a, a < 354 ∨ 360 < a → xI T a = xI S a) ∧ (∀ a, a ≠ 358 → a ≠ 359 → a ≠ 372 → ¬ (r ≤ a ∧ a < r + 50) → xJ T a = xJ S a) ∧ ∀ a, a ≠ 5 → xP T a = xP S a
section GFR
variable {S T U : gk_S} {r : Nat}
theorem GF_refl : GF r S S := ⟨rfl, rfl, rfl, fun _ _ _ _ => rfl, fun _ _ _ _ => rfl, fun _ _ _ => rfl, fun _ _ => rfl, fun _ _ _ _ _ => rfl, fun _ _ => rfl⟩
theorem GF_trans (h : GF r S T) (g : GF r T U) : GF r S U := by
  obtain ⟨a1, a2, a3, a4, a5, a6, a7, a8, a9⟩ := h
  obtain ⟨b1, b2, b3, b4, b5, b6, b7, b8, b9⟩ := g
  exact ⟨b1.trans a1, b2.trans a2, b3.trans a3, fun f a q p => (b4 f a q p).trans (a4 f a q p), fun f a q p => (b5 f a q p).trans (a5 f a q p), fun f a q => (b6 f a q).trans (a6 f a q), fun a q => (b7 a q).trans (a7 a q), fun a q p o n => (b8 a q p o n).trans (a8 a q p o n), fun a q => (b9 a q).trans (a9 a q)⟩
theorem GL_r {f : Nat} (h : 701 ≤ f ∧ f ≤ 710) : f ∈ GL := by
  have : f = 701 ∨ f = 702 ∨ f = 703 ∨ f = 704 ∨ f = 705 ∨ f = 706 ∨ f = 707 ∨ f = 708 ∨ f = 709 ∨ f = 710 := by omega
  rcases this with rfl | rfl | rfl | rfl | rfl | rfl | rfl | rfl | rfl | rfl <;> decide
theorem GF_D (h : DF r S T) : GF r S T := by
  obtain ⟨a1, a2, a3, a4, a5, a6, a7, a8, a9⟩ := h
  exact ⟨a1, a2, a3, fun f a q p => a4 f a (fun x => q (GL_r x)) p, fun f a q _ => a5 f a q, fun f a _ => by rw [a6], fun a _ => by rw [a7], fun a _ _ _ p => a8 a p, fun a _ => by rw [a9]⟩
theorem GF_M (h : MF S T) : GF r S T := by
  obtain ⟨a1, a2, a3, a4, a5, a6, a7, a8, a9, a10, a11, a12⟩ := h
  refine ⟨a1, a2, a3, fun f a q p => a4 f a (fun x => q ?_), fun f a _ q => a5 f a q, fun f a _ => by rw [a6], fun a q => a7 a (by omega), fun a q p _ _ => a10 a q p, fun a _ => by rw [a12]⟩
  have : ∀ x ∈ [904, 914, 915, 916], x ∈ GL := by decide
  exact this f x
theorem GF_L {Q : Nat → Prop} (h : LF Q S T) : GF r S T := by
  obtain ⟨a1, a2, a3, a4, a5, a6, a7, a8, a9, a10, a11, a12⟩ := h
  exact ⟨a1, a2, a3, fun f a _ _ => by rw [a4], fun f a _ _ => by rw [a5], fun f a _ => by rw [a6], fun a q => a7 a (by omega), fun a q p _ _ => a10 a q p, fun a _ => by rw [a12]⟩
theorem GF_3 (h : Frm [] [] [] [360] [] [] S T) : GF r S T := by
  obtain ⟨a1, a2, a3, a4, a5, a6, a7, a8, a9⟩ := h
  exact ⟨a1, a2, a3, fun f a _ _ => a4 f a (by simp), fun f a _ _ => a5 f a (by simp), fun f a _ => a6 f a (by simp), fun a q => a7 a (by simp; omega), fun a _ _ _ _ => a8 a (by simp), fun a _ => a9 a (by simp)⟩
theorem GF_sI (h : GF r S T) {f : Nat} (hf : f ∈ GL) (a : Nat) (v : Int32) : GF r S (sI T f a v) := GF_trans h ⟨rfl, rfl, rfl, fun f' a' q _ => rd_ne _ _ (Or.inl (fun x => q (x ▸ hf))), fun _ _ _ _ => rfl, fun _ _ _ => rfl, fun _ _ => rfl, fun _ _ _ _ _ => rfl, fun _ _ => rfl⟩
theorem GF_o (h : GF r S T) (i : Int32) (v : Int64) : GF r S (wJ T 372 i v) := GF_trans h ⟨rfl, rfl, rfl, fun _ _ _ _ => rfl, fun _ _ _ _ => rfl, fun _ _ _ => rfl, fun _ _ => rfl, fun a _ _ q _ => rw_ne _ _ _ _ q, fun _ _ => rfl⟩
theorem GF_wP (h : GF r S T) (i : Int32) (v : Nat) : GF r S (wP T 5 i v) := GF_trans h ⟨rfl, rfl, rfl, fun _ _ _ _ => rfl, fun _ _ _ _ => rfl, fun _ _ _ => rfl, fun _ _ => rfl, fun _ _ _ _ _ => rfl, fun a q => by rw [xP_wP, if_neg q]⟩
theorem GF_sP (h : GF r S T) (a : Nat) (v : Option Nat) : GF r S (sP T 810 a v) := GF_trans h ⟨rfl, rfl, rfl, fun _ _ _ _ => rfl, fun _ _ _ _ => rfl, fun f c q => by rw [gP_sP, if_neg (fun e => q e.1)], fun _ _ => rfl, fun _ _ _ _ _ => rfl, fun _ _ => rfl⟩
theorem GF_Sh (h : GF r S T) (s : Sh S) : Sh T := by
  obtain ⟨h1, h2, h3, h4, h5, p8, h7, h8, x8⟩ := h
  obtain ⟨s1, s2, s3, s4, s5⟩ := s
  refine ⟨h1.trans s1, fun a ha => by rw [h2, h3]; exact s2 a ha, fun q hq => ?_, fun k hk => ⟨by rw [p8 _ _ (by decide)]; exact (s4 k hk).1, fun i hi => ⟨by rw [x8 _ (by omega)]; exact ((s4 k hk).2 i hi).1, by rw [p8 _ _ (by decide), p8 _ _ (by decide)]; exact ((s4 k hk).2 i hi).2⟩⟩, fun i hi => ⟨by rw [x8 _ (by omega)]; exact (s5 i hi).1, by rw [x8 _ (by omega)]; exact (s5 i hi).2⟩⟩
  rw [p8]
  · exact s3 q hq
  · have : ∀ q ∈ shP, q.1 ≠ 810 := by decide
    exact this q hq
/-- what doesn't touch lists, texts, faults -/
theorem GF_rest {t : Nat} (h : GF r S T) (hr : Ba r) (i2 : Ot S) (i4 : Wd S) (i6 : Tb S) (i7 : Lp S) (i8 : Se S t) (e1 : gI T 101 3 = gI S 101 3) : Ot T ∧ Wd T ∧ Tb T ∧ Lp T ∧ Se T t := by
  have hb := Ba_lt hr
  obtain ⟨h1, h2, h3, h4, h5, p8, h7, h8, x8⟩ := h
  refine ⟨Ot_c i2 e1 (h4 _ _ (by decide) (by omega)) (h7 _ (by omega)) (h7 _ (by omega)), Wd_c i4 (h7 _ (by omega)) (h7 _ (by omega)), ?_, Lp_c i7 (h8 _ (by decide) (by decide) (by decide) (by omega)) (h4 _ _ (by decide) (by omega)) (h7 _ (by omega)), Se_c i8 (h5 _ _ (by omega) (by decide)) (h8 _ (by decide) (by decide) (by decide) (by omega))⟩
  obtain ⟨Q, C, n, mx, tm, g1, g2, g3, g4, f1, f2, f3, f4, f5, f6, f7, f8, f9, p1, p2, p3⟩ := i6
  refine ⟨Q, C, n, mx, tm, g1, g2, g3, g4, (h4 _ _ (by decide) (by omega)).trans f1, (h4 _ _ (by decide) (by omega)).trans f2, (h4 _ _ (by decide) (by omega)).trans f3, (h4 _ _ (by decide) (by omega)).trans f4, (h4 _ _ (by decide) (by omega)).trans f5, (h4 _ _ (by decide) (by omega)).trans f6, ?_, ?_, ?_, fun i hi => by rw [x8 _ (by omega)]; exact p1 i hi, p2, fun i hi => ⟨(p3 i hi).1, ?_, fun j hj => by rw [h7 _ (by omega)]; exact (p3 i hi).2.2 j hj⟩⟩
  · rw [h4 _ _ (by decide) (by omega), h4 _ _ (by decide) (by omega)]; exact f7
  · rw [h4 _ _ (by decide) (by omega), h4 _ _ (by decide) (by omega)]; exact f8
  · rw [h4 _ _ (by decide) (by omega), h4 _ _ (by decide) (by omega)]; exact f9
  · have q := p1 i (by omega)
    exact CC_c (p3 i hi).2.1 ⟨h4 _ _ (by decide) (by omega), h5 _ _ (by omega) (by decide), h5 _ _ (by omega) (by decide), h5 _ _ (by omega) (by decide), h5 _ _ (by omega) (by decide), h4 _ _ (by decide) (by omega), h4 _ _ (by decide) (by omega), h4 _ _ (by decide) (by omega), h4 _ _ (by decide) (by omega)⟩
theorem Ba_dis {r r' : Nat} (h : Ba r) (h' : Ba r') (n : r ≠ r') {a : Nat} (ha : r' ≤ a ∧ a < r' + 50) : ¬ (r ≤ a ∧ a < r + 50) := by
  obtain ⟨k, hk, rfl⟩ := h
  obtain ⟨k', hk', rfl⟩ := h'
  omega
/-- another list of the class stays -/
theorem GF_CL (h : GF r S T) (hr : Ba r) {r' : Nat} (hr' : Ba r') (n : r ≠ r') {L : AL} (c : CL S r' L) (hn : L.n ≤ 16) : CL T r' L ∧ gI T 403 r' = gI S 403 r' ∧ ∀ i, i < L.n → gI T 304 (ru r' i) = gI S 304 (ru r' i) := by
  have hb := Ba_lt hr'
  obtain ⟨h1, h2, h3, h4, h5, p8, h7, h8, x8⟩ := h
  have d : ∀ {a}, r' ≤ a ∧ a < r' + 50 → ¬ (r ≤ a ∧ a < r + 50) := fun q => Ba_dis hr hr' n q
  refine ⟨CL_c c (h4 _ _ (by decide) (d (by omega))) (h4 _ _ (by decide) (d (by omega))) (fun i hi => ?_), h4 _ _ (by decide) (d (by omega)), fun i hi => h4 _ _ (by decide) (d (ru_in (by omega)).1)⟩
  have u := ru_in (r := r') (show i < 16 by omega)
  exact ⟨h4 _ _ (by decide) (d u.1), h4 _ _ (by decide) (d u.1), h8 _ (by omega) (by omega) (by omega) (d u.2.1), h8 _ (by omega) (by omega) (by omega) (d u.2.2)⟩
theorem MF_ML (h : MF S T) {k : Nat} {L : AL} (l : ML S k L) (hn : L.n ≤ 16) (q : k < 4) : ML T k L := by
  obtain ⟨a1, a2, a3, a4, a5, a6, a7, a8, a9, a10, a11, a12⟩ := h
  obtain ⟨l1, l2, l3⟩ := l
  refine ⟨(a8 _ _ (Or.inr rfl) (by omega)).trans l1, (a8 _ _ (Or.inl rfl) (by omega)).trans l2, fun i hi => ?_⟩
  obtain ⟨m1, m2, m3⟩ := l3 i hi
  exact ⟨(a9 _ _ (Or.inl rfl) (by omega)).trans m1, (a9 _ _ (Or.inr rfl) (by omega)).trans m2, fun f hf => ⟨(a11 _ _ (Or.inl rfl) (by omega)).trans (m3 f hf).1, (a11 _ _ (Or.inr rfl) (by omega)).trans (m3 f hf).2⟩⟩
theorem Ls_place {R : Nat → Nat} {L : Nat → AL} {k : Nat} {L' : AL} (l1 : ∀ k, k < 5 → Ba (R k)) (l2 : ∀ j k, j < 5 → k < 5 → R j = R k → j = k) (l6 : LsT S R L) (hk : k < 4) (wl : WL L') (c : CL T (R 4) L') (mk : ML T k L') (t1 : gI T 403 (R 4) = 0) (t2 : ∀ i, i < L'.n → gI T 304 (ru (R 4) i) = 0) (x5 : ∀ j, j < 4 → xP T 5 j = some (if j = k then R 4 else R j)) (p8 : gP T 810 0 = some (R k)) (ot : ∀ j, j < 4 → j ≠ k → WL (L j) ∧ CL T (R j) (L j) ∧ ML T j (L j) ∧ gI T 403 (R j) = gI S 403 (R j) ∧ ∀ i, i < (L j).n → gI T 304 (ru (R j) i) = gI S 304 (ru (R j) i)) (x0 : k = 0 → ∀ j, j < 17 → xI T 360 j = 0) (x1 : k ≠ 0 → xI T 360 = xI S 360) : Ls T := by
  have rk : ∀ j, (if j = k then R 4 else if j = 4 then R k else R j) = if j = k then R 4 else if j = 4 then R k else R j := fun _ => rfl
  refine ⟨fun j => if j = k then R 4 else if j = 4 then R k else R j, fun j => if j = k then L' else L j, fun j hj => ?_, fun i j hi hj e => ?_, fun j hj => ?_, ?_, fun j hj => ?_, fun j hj => ?_⟩
  · show Ba (if j = k then R 4 else if j = 4 then R k else R j)
    split
    · exact l1 4 (by omega)
    · split
      · exact l1 k (by omega)
      · exact l1 j hj
  · have e' : (if i = k then R 4 else if i = 4 then R k else R i) = if j = k then R 4 else if j = 4 then R k else R j := e
    by_cases c1 : i = k
    · rw [if_pos c1] at e'
      by_cases c2 : j = k
      · omega
      · rw [if_neg c2] at e'
        by_cases c3 : j = 4
        · rw [if_pos c3] at e'; have := l2 4 k (by omega) (by omega) e'; omega
        · rw [if_neg c3] at e'; have := l2 4 j (by omega) (by omega) e'; omega
    · rw [if_neg c1] at e'
      by_cases c4 : i = 4
      · rw [if_pos c4] at e'
        by_cases c2 : j = k
        · rw [if_pos c2] at e'; have := l2 k 4 (by omega) (by omega) e'; omega
        · rw [if_neg c2] at e'
          by_cases c3 : j = 4
          · omega
          · rw [if_neg c3] at e'; have := l2 k j (by omega) (by omega) e'; omega
      · rw [if_neg c4] at e'
        by_cases c2 : j = k
        · rw [if_pos c2] at e'; have := l2 i 4 (by omega) (by omega) e'; omega
        · rw [if_neg c2] at e'
          by_cases c3 : j = 4
          · rw [if_pos c3] at e'; have := l2 i k (by omega) (by omega) e'; omega
          · rw [if_neg c3] at e'; exact l2 i j hi hj e'
  · show xP T 5 j = some (if j = k then R 4 else if j = 4 then R k else R j)
    rw [x5 j hj]
    by_cases c1 : j = k
    · rw [if_pos c1, if_pos c1]
    · rw [if_neg c1, if_neg c1, if_neg (by omega)]
  · show gP T 810 0 = some (if 4 = k then R 4 else if 4 = 4 then R k else R 4)
    rw [p8, if_neg (by omega), if_pos rfl]
  · show WL (if j = k then L' else L j) ∧ CL T (if j = k then R 4 else if j = 4 then R k else R j) (if j = k then L' else L j) ∧ ML T j (if j = k then L' else L j)
    by_cases c1 : j = k
    · rw [if_pos c1, if_pos c1, c1]; exact ⟨wl, c, mk⟩
    · rw [if_neg c1, if_neg c1, if_neg (by omega)]
      obtain ⟨o1, o2, o3, -⟩ := ot j hj c1
      exact ⟨o1, o2, o3⟩
  · show gI T 403 (if j = k then R 4 else if j = 4 then R k else R j) = (if j = 0 then xI T 360 16 else 0) ∧ ∀ i, i < (if j = k then L' else L j).n → gI T 304 (ru (if j = k then R 4 else if j = 4 then R k else R j) i) = if j = 0 then xI T 360 i else 0
    by_cases c1 : j = k
    · rw [if_pos c1, if_pos c1, t1]
      by_cases c0 : j = 0
      · rw [if_pos c0, x0 (by omega) 16 (by omega)]
        refine ⟨rfl, fun i hi => ?_⟩
        rw [if_pos c0, t2 i hi, x0 (by omega) i (by have := wl.1; omega)]
      · rw [if_neg c0]
        refine ⟨rfl, fun i hi => ?_⟩
        rw [if_neg c0, t2 i hi]
    · rw [if_neg c1, if_neg c1, if_neg (by omega)]
      obtain ⟨o1, o2, o3, o4, o5⟩ := ot j hj c1
      obtain ⟨u1, u2⟩ := l6 j hj
      by_cases c0 : j = 0
      · rw [o4, u1, if_pos c0, if_pos c0, x1 (by omega)]
        refine ⟨rfl, fun i hi => ?_⟩
        rw [o5 i hi, u2 i hi]
      · rw [o4, u1, if_neg c0, if_neg c0]
        refine ⟨rfl, fun i hi => ?_⟩
        rw [o5 i hi, u2 i hi, if_neg c0, if_neg c0]
end GFR
