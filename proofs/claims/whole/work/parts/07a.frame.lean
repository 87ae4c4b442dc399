/-! FRAMES: which fields and rows may change -/
def Frm (lI lJ lP rI' rJ' rP' : List Nat) (S T : gk_S) : Prop := gk_n T = gk_n S ∧ gk_K T = gk_K S ∧ gL T = gL S ∧ (∀ f a, f ∉ lI → gI T f a = gI S f a) ∧ (∀ f a, f ∉ lJ → gJ T f a = gJ S f a) ∧ (∀ f a, f ∉ lP → gP T f a = gP S f a) ∧ (∀ a, a ∉ rI' → xI T a = xI S a) ∧ (∀ a, a ∉ rJ' → xJ T a = xJ S a) ∧ ∀ a, a ∉ rP' → xP T a = xP S a
section FRM
variable {lI lJ lP rI' rJ' rP' : List Nat} {S T U : gk_S}
theorem Fr_refl : Frm lI lJ lP rI' rJ' rP' S S := ⟨rfl, rfl, rfl, fun _ _ _ => rfl, fun _ _ _ => rfl, fun _ _ _ => rfl, fun _ _ => rfl, fun _ _ => rfl, fun _ _ => rfl⟩
theorem Fr_trans (h : Frm lI lJ lP rI' rJ' rP' S T) (g : Frm lI lJ lP rI' rJ' rP' T U) : Frm lI lJ lP rI' rJ' rP' S U := by
  obtain ⟨h1, h2, h3, h4, h5, h6, h7, h8, h9⟩ := h
  obtain ⟨g1, g2, g3, g4, g5, g6, g7, g8, g9⟩ := g
  exact ⟨g1.trans h1, g2.trans h2, g3.trans h3, fun f a e => (g4 f a e).trans (h4 f a e), fun f a e => (g5 f a e).trans (h5 f a e), fun f a e => (g6 f a e).trans (h6 f a e), fun a e => (g7 a e).trans (h7 a e), fun a e => (g8 a e).trans (h8 a e), fun a e => (g9 a e).trans (h9 a e)⟩
theorem Fr_mono {mI mJ mP sI' sJ' sP' : List Nat} (h : Frm lI lJ lP rI' rJ' rP' S T) (e1 : ∀ f ∈ lI, f ∈ mI) (e2 : ∀ f ∈ lJ, f ∈ mJ) (e3 : ∀ f ∈ lP, f ∈ mP) (e4 : ∀ f ∈ rI', f ∈ sI') (e5 : ∀ f ∈ rJ', f ∈ sJ') (e6 : ∀ f ∈ rP', f ∈ sP') : Frm mI mJ mP sI' sJ' sP' S T := by
  obtain ⟨h1, h2, h3, h4, h5, h6, h7, h8, h9⟩ := h
  exact ⟨h1, h2, h3, fun f a e => h4 f a (fun q => e (e1 f q)), fun f a e => h5 f a (fun q => e (e2 f q)), fun f a e => h6 f a (fun q => e (e3 f q)), fun a e => h7 a (fun q => e (e4 a q)), fun a e => h8 a (fun q => e (e5 a q)), fun a e => h9 a (fun q => e (e6 a q))⟩
theorem Fr_sI (h : Frm lI lJ lP rI' rJ' rP' S T) {f : Nat} (hf : f ∈ lI) (a : Nat) (v : Int32) : Frm lI lJ lP rI' rJ' rP' S (sI T f a v) := Fr_trans h ⟨rfl, rfl, rfl, fun _ _ e => rd_ne T v (Or.inl (fun q => e (q ▸ hf))), fun _ _ _ => rfl, fun _ _ _ => rfl, fun _ _ => rfl, fun _ _ => rfl, fun _ _ => rfl⟩
theorem Fr_sJ (h : Frm lI lJ lP rI' rJ' rP' S T) {f : Nat} (hf : f ∈ lJ) (a : Nat) (v : Int64) : Frm lI lJ lP rI' rJ' rP' S (sJ T f a v) := Fr_trans h ⟨rfl, rfl, rfl, fun _ _ _ => rfl, fun _ _ e => rj_ne T v (Or.inl (fun q => e (q ▸ hf))), fun _ _ _ => rfl, fun _ _ => rfl, fun _ _ => rfl, fun _ _ => rfl⟩
theorem Fr_sP (h : Frm lI lJ lP rI' rJ' rP' S T) {f : Nat} (hf : f ∈ lP) (a : Nat) (v : Option Nat) : Frm lI lJ lP rI' rJ' rP' S (sP T f a v) := Fr_trans h ⟨rfl, rfl, rfl, fun _ _ _ => rfl, fun _ _ _ => rfl, fun c b e => if_neg (fun (q : c = f ∧ b = a) => e (q.1 ▸ hf)), fun _ _ => rfl, fun _ _ => rfl, fun _ _ => rfl⟩
theorem Fr_rI (h : Frm lI lJ lP rI' rJ' rP' S T) {a : Nat} (ha : a ∈ rI') (v : Nat → Int32) : Frm lI lJ lP rI' rJ' rP' S (rI T a v) := Fr_trans h ⟨rfl, rfl, rfl, fun _ _ _ => rfl, fun _ _ _ => rfl, fun _ _ _ => rfl, fun c e => if_neg (fun (q : c = a) => e (q ▸ ha)), fun _ _ => rfl, fun _ _ => rfl⟩
theorem Fr_rJ (h : Frm lI lJ lP rI' rJ' rP' S T) {a : Nat} (ha : a ∈ rJ') (v : Nat → Int64) : Frm lI lJ lP rI' rJ' rP' S (rJ T a v) := Fr_trans h ⟨rfl, rfl, rfl, fun _ _ _ => rfl, fun _ _ _ => rfl, fun _ _ _ => rfl, fun _ _ => rfl, fun c e => if_neg (fun (q : c = a) => e (q ▸ ha)), fun _ _ => rfl⟩
theorem Fr_wJ (h : Frm lI lJ lP rI' rJ' rP' S T) {a : Nat} (ha : a ∈ rJ') (i : Int32) (v : Int64) : Frm lI lJ lP rI' rJ' rP' S (wJ T a i v) := Fr_rJ h ha _
theorem Fr_rP (h : Frm lI lJ lP rI' rJ' rP' S T) {a : Nat} (ha : a ∈ rP') (v : Nat → Option Nat) : Frm lI lJ lP rI' rJ' rP' S (rP T a v) := Fr_trans h ⟨rfl, rfl, rfl, fun _ _ _ => rfl, fun _ _ _ => rfl, fun _ _ _ => rfl, fun _ _ => rfl, fun _ _ => rfl, fun c e => if_neg (fun (q : c = a) => e (q ▸ ha))⟩
theorem Fr_cS (h : Frm lI lJ lP rI' rJ' rP' S T) : Frm lI lJ lP rI' rJ' rP' S (cS T) := h
theorem FrT_Fr (h : FrT S T) (e1 : ∀ f ∈ [0, 1, 2, 3, 4, 5, 6, 7, 8, 601, 604, 605], f ∈ lI) (e2 : ∀ f ∈ [0, 1, 2, 3, 4], f ∈ lJ) (e3 : 280 ∈ rP') : Frm lI lJ lP rI' rJ' rP' S T := by
  obtain ⟨h1, h2, h3, h4, h5, h6, h7, h8, h9⟩ := h
  refine ⟨h1, h2, h3, fun f a e => ?_, fun f a e => ?_, fun _ _ _ => by rw [h4], fun _ _ => by rw [h5], fun _ _ => by rw [h6], fun a e => h7 a (fun q => e (q ▸ e3))⟩
  · refine h8 f a (Nat.lt_of_not_le fun q => ?_) (fun q => e (q ▸ e1 601 (by decide))) (fun q => e (q ▸ e1 604 (by decide))) (fun q => e (q ▸ e1 605 (by decide)))
    have : f = 0 ∨ f = 1 ∨ f = 2 ∨ f = 3 ∨ f = 4 ∨ f = 5 ∨ f = 6 ∨ f = 7 ∨ f = 8 := by omega
    refine e (e1 f ?_)
    rcases this with rfl | rfl | rfl | rfl | rfl | rfl | rfl | rfl | rfl <;> decide
  · refine h9 f a (Nat.lt_of_not_le fun q => ?_)
    have : f = 0 ∨ f = 1 ∨ f = 2 ∨ f = 3 ∨ f = 4 := by omega
    refine e (e2 f ?_)
    rcases this with rfl | rfl | rfl | rfl | rfl <;> decide
theorem Fr_Sh (h : Frm lI lJ lP rI' rJ' rP' S T) (s : Sh S) (e1 : ∀ f ∈ lP, f = 810) (e2 : ∀ a ∈ rP', a = 280 ∨ a = 5) : Sh T := by
  obtain ⟨h1, h2, h3, h4, h5, h6, h7, h8, h9⟩ := h
  obtain ⟨s1, s2, s3, s4, s5⟩ := s
  have p8 : ∀ f a, f ≠ 810 → gP T f a = gP S f a := fun f a q => h6 f a (fun e => q (e1 f e))
  have x8 : ∀ a, a ≠ 280 → a ≠ 5 → xP T a = xP S a := fun a q q' => h9 a (fun e => (e2 a e).elim q q')
  refine ⟨h1.trans s1, fun a ha => by rw [h2, h3]; exact s2 a ha, fun q hq => ?_, fun k hk => ⟨by rw [p8 _ _ (by decide)]; exact (s4 k hk).1, fun i hi => ⟨by rw [x8 _ (by omega) (by omega)]; exact ((s4 k hk).2 i hi).1, by rw [p8 _ _ (by decide), p8 _ _ (by decide)]; exact ((s4 k hk).2 i hi).2⟩⟩, fun i hi => ⟨by rw [x8 _ (by omega) (by omega)]; exact (s5 i hi).1, by rw [x8 _ (by omega) (by omega)]; exact (s5 i hi).2⟩⟩
  rw [p8]
  · exact s3 q hq
  · have : ∀ q ∈ shP, q.1 ≠ 810 := by decide
    exact this q hq
/-- tape, out, found, words, the search's memory -/
theorem Fr_Tp (h : Frm lI lJ lP rI' rJ' rP' S T) (s : Tp S) (e : 101 ∉ lI ∧ 902 ∉ lI ∧ 353 ∉ rI' ∧ 2 ∉ rI') : Tp T := Tp_c s (h.2.2.2.1 _ _ e.1) (h.2.2.2.1 _ _ e.2.1) (h.2.2.2.2.2.2.1 _ e.2.2.1) (h.2.2.2.2.2.2.1 _ e.2.2.2)
theorem Fr_Ot (h : Frm lI lJ lP rI' rJ' rP' S T) (s : Ot S) (e : 101 ∉ lI ∧ 921 ∉ lI ∧ 363 ∉ rI' ∧ 4 ∉ rI') : Ot T := Ot_c s (h.2.2.2.1 _ _ e.1) (h.2.2.2.1 _ _ e.2.1) (h.2.2.2.2.2.2.1 _ e.2.2.1) (h.2.2.2.2.2.2.1 _ e.2.2.2)
theorem Fr_Fnd (h : Frm lI lJ lP rI' rJ' rP' S T) (s : Fnd S) (e : 812 ∉ lI ∧ 918 ∉ lI ∧ 811 ∉ lI ∧ 925 ∉ lI ∧ 351 ∉ rJ' ∧ 365 ∉ rJ') : Fnd T := Fnd_c s (h.2.2.2.1 _ _ e.1) (h.2.2.2.1 _ _ e.2.1) (h.2.2.2.1 _ _ e.2.2.1) (h.2.2.2.1 _ _ e.2.2.2.1) (h.2.2.2.2.2.2.2.1 _ e.2.2.2.2.1) (h.2.2.2.2.2.2.2.1 _ e.2.2.2.2.2)
theorem Fr_Wd (h : Frm lI lJ lP rI' rJ' rP' S T) (s : Wd S) (e : 361 ∉ rI' ∧ 362 ∉ rI') : Wd T := Wd_c s (h.2.2.2.2.2.2.1 _ e.1) (h.2.2.2.2.2.2.1 _ e.2)
theorem Fr_Se {t : Nat} (h : Frm lI lJ lP rI' rJ' rP' S T) (s : Se S t) (e : 508 ∉ lJ ∧ 278 ∉ rJ') : Se T t := Se_c s (h.2.2.2.2.1 _ _ e.1) (h.2.2.2.2.2.2.2.1 _ e.2)
theorem Fr_Lp (h : Frm lI lJ lP rI' rJ' rP' S T) (s : Lp S) (e : 346 ∉ rJ' ∧ 201 ∉ lI ∧ 370 ∉ rI') : Lp T := Lp_c s (h.2.2.2.2.2.2.2.1 _ e.1) (h.2.2.2.1 _ _ e.2.1) (h.2.2.2.2.2.2.1 _ e.2.2)
theorem Fr_Tb (h : Frm lI lJ lP rI' rJ' rP' S T) (s : Tb S) (e1 : ∀ f ∈ [0, 5, 6, 7, 8, 601, 602, 603, 604, 605, 932, 933, 934, 935, 936, 937, 813], f ∉ lI) (e2 : ∀ f ∈ [1, 2, 3, 4], f ∉ lJ) (e3 : 280 ∉ rP') (e4 : 369 ∉ rI') : Tb T := by
  obtain ⟨h1, h2, h3, h4, h5, h6, h7, h8, h9⟩ := h
  refine Tb_c s (fun q => ⟨h4 _ _ (e1 0 (by decide)), h5 _ _ (e2 1 (by decide)), h5 _ _ (e2 2 (by decide)), h5 _ _ (e2 3 (by decide)), h5 _ _ (e2 4 (by decide)), h4 _ _ (e1 5 (by decide)), h4 _ _ (e1 6 (by decide)), h4 _ _ (e1 7 (by decide)), h4 _ _ (e1 8 (by decide))⟩) (fun f f1 f2 => ?_) (fun f f1 f2 => ?_) (h4 _ _ (e1 813 (by decide))) (h9 _ e3) (h7 _ e4)
  · have : f = 601 ∨ f = 602 ∨ f = 603 ∨ f = 604 ∨ f = 605 := by omega
    refine h4 _ _ (e1 f ?_)
    rcases this with rfl | rfl | rfl | rfl | rfl <;> decide
  · have : f = 932 ∨ f = 933 ∨ f = 934 ∨ f = 935 ∨ f = 936 ∨ f = 937 := by omega
    refine h4 _ _ (e1 f ?_)
    rcases this with rfl | rfl | rfl | rfl | rfl | rfl <;> decide
/-- the lists, but for what they were told -/
def LsC (S : gk_S) (R : Nat → Nat) (L : Nat → AL) : Prop := (∀ k, k < 5 → Ba (R k)) ∧ (∀ j k, j < 5 → k < 5 → R j = R k → j = k) ∧ (∀ k, k < 4 → xP S 5 k = some (R k)) ∧ gP S 810 0 = some (R 4) ∧ ∀ k, k < 4 → WL (L k) ∧ CL S (R k) (L k) ∧ ML S k (L k)
def LsT (S : gk_S) (R : Nat → Nat) (L : Nat → AL) : Prop := ∀ k, k < 4 → gI S 403 (R k) = (if k = 0 then xI S 360 16 else 0) ∧ ∀ i, i < (L k).n → gI S 304 (ru (R k) i) = if k = 0 then xI S 360 i else 0
theorem Ls_el (h : Ls S) : ∃ R L, LsC S R L ∧ LsT S R L := by
  obtain ⟨R, L, h1, h2, h3, h4, h5, h6⟩ := h
  exact ⟨R, L, ⟨h1, h2, h3, h4, h5⟩, h6⟩
theorem Ls_in {R : Nat → Nat} {L : Nat → AL} (h : LsC S R L) (g : LsT S R L) : Ls S := ⟨R, L, h.1, h.2.1, h.2.2.1, h.2.2.2.1, h.2.2.2.2, g⟩
theorem Fr_sCR (h : Frm lI lJ lP rI' rJ' rP' S T) (e1 : 303 ∉ lI ∧ 302 ∉ lI) (e2 : ∀ a ∈ rJ', 256 ≤ a) {r i : Nat} (hr : Ba r) (hi : i < 16) : sCR S T (ru r i) := by
  have u := ru_lt hr hi
  exact ⟨h.2.2.2.1 _ _ e1.1, h.2.2.2.1 _ _ e1.2, h.2.2.2.2.2.2.2.1 _ (fun q => by have := e2 _ q; omega), h.2.2.2.2.2.2.2.1 _ (fun q => by have := e2 _ q; omega)⟩
theorem Fr_LsC {R : Nat → Nat} {L : Nat → AL} (h : Frm lI lJ lP rI' rJ' rP' S T) (s : LsC S R L) (e1 : 401 ∉ lI ∧ 402 ∉ lI ∧ 303 ∉ lI ∧ 302 ∉ lI) (e2 : ∀ a ∈ rJ', 256 ≤ a ∧ a ≠ 358 ∧ a ≠ 359) (e3 : 354 ∉ rI' ∧ 355 ∉ rI' ∧ 356 ∉ rI' ∧ 357 ∉ rI') (e4 : 5 ∉ rP') (e5 : 810 ∉ lP) : LsC T R L := by
  obtain ⟨s1, s2, s3, s4, s5⟩ := s
  refine ⟨s1, s2, fun k hk => by rw [h.2.2.2.2.2.2.2.2 _ e4]; exact s3 k hk, (h.2.2.2.2.2.1 _ _ e5).trans s4, fun k hk => ?_⟩
  obtain ⟨w, c, m⟩ := s5 k hk
  refine ⟨w, CL_c c (h.2.2.2.1 _ _ e1.1) (h.2.2.2.1 _ _ e1.2.1) (fun i hi => Fr_sCR h ⟨e1.2.2.1, e1.2.2.2⟩ (fun a q => (e2 a q).1) (s1 k (by omega)) (by have := w.1; omega)), ML_c m ⟨h.2.2.2.2.2.2.1 _ e3.1, h.2.2.2.2.2.2.1 _ e3.2.1, h.2.2.2.2.2.2.1 _ e3.2.2.1, h.2.2.2.2.2.2.1 _ e3.2.2.2, h.2.2.2.2.2.2.2.1 _ (fun q => (e2 _ q).2.1 rfl), h.2.2.2.2.2.2.2.1 _ (fun q => (e2 _ q).2.2 rfl)⟩⟩
theorem Fr_LsT {R : Nat → Nat} {L : Nat → AL} (h : Frm lI lJ lP rI' rJ' rP' S T) (s : LsT S R L) (e1 : 403 ∉ lI ∧ 304 ∉ lI) (e3 : 360 ∉ rI') : LsT T R L := by
  intro k hk
  rw [h.2.2.2.2.2.2.1 _ e3]
  exact ⟨(h.2.2.2.1 _ _ e1.1).trans (s k hk).1, fun i hi => (h.2.2.2.1 _ _ e1.2).trans ((s k hk).2 i hi)⟩
end FRM
theorem ru_inj {r r' i j : Nat} (h : Ba r) (h' : Ba r') (hi : i < 16) (hj : j < 16) (e : ru r i = ru r' j) : r = r' ∧ i = j := by
  obtain ⟨k, hk, rfl⟩ := h
  obtain ⟨k', hk', rfl⟩ := h'
  unfold ru at e
  omega
