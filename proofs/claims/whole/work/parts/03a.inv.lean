/-! WHAT HOLDS BETWEEN CALLS -/
def tp (f : Nat) : Nat := [3, 255, 4294967295, 4294967295, 65535, 65535, 3].getD f 0
/-- a rule: action, states, from what, up to what -/
abbrev AR : Type := Nat × Nat × (Nat → Nat) × (Nat → Nat)
abbrev AR.a (ρ : AR) : Nat := ρ.1
abbrev AR.s (ρ : AR) : Nat := ρ.2.1
abbrev AR.lo (ρ : AR) : Nat → Nat := ρ.2.2.1
abbrev AR.hi (ρ : AR) : Nat → Nat := ρ.2.2.2
/-- a list: how many, policy, rules -/
abbrev AL : Type := Nat × Nat × (Nat → AR)
abbrev AL.n (L : AL) : Nat := L.1
abbrev AL.p (L : AL) : Nat := L.2.1
abbrev AL.r (L : AL) : Nat → AR := L.2.2
def CR (S : gk_S) (u : Nat) (ρ : AR) : Prop := gI S 303 u = nI ρ.a ∧ gI S 302 u = nI ρ.s ∧ ∀ f, f < 6 → xJ S (u + 1) f = lN (ρ.lo f) ∧ xJ S (u + 2) f = lN (ρ.hi f)
def MR (S : gk_S) (j : Nat) (ρ : AR) : Prop := xI S 356 j = nI ρ.a ∧ xI S 357 j = nI ρ.s ∧ ∀ f, f < 6 → xJ S 358 (6 * j + f) = lN (ρ.lo f) ∧ xJ S 359 (6 * j + f) = lN (ρ.hi f)
def CL (S : gk_S) (r : Nat) (L : AL) : Prop := gI S 401 r = nI L.n ∧ gI S 402 r = nI L.p ∧ ∀ i, i < L.n → CR S (ru r i) (L.r i)
def ML (S : gk_S) (k : Nat) (L : AL) : Prop := xI S 355 k = nI L.n ∧ xI S 354 k = nI L.p ∧ ∀ i, i < L.n → MR S (16 * k + i) (L.r i)
def WR (ρ : AR) : Prop := ρ.a < 3 ∧ ρ.s < 16 ∧ ∀ f, f < 6 → ρ.lo f ≤ ρ.hi f ∧ ρ.hi f ≤ tp f ∧ 1 ≤ ρ.s
def WL (L : AL) : Prop := L.n ≤ 16 ∧ L.p < 3 ∧ ∀ i, i < L.n → WR (L.r i)
def Tp (S : gk_S) : Prop := ∃ m, m ≤ 2100 ∧ gI S 101 1 = nI m ∧ gI S 902 352 = nI m ∧ xI S 353 = xI S 2 ∧ ∀ i, b8 (xI S 2 i) = xI S 2 i
def Ot (S : gk_S) : Prop := ∃ m, m ≤ 3000 ∧ gI S 101 3 = nI m ∧ gI S 921 352 = nI m ∧ xI S 363 = xI S 4
def Fnd (S : gk_S) : Prop := gI S 812 0 = gI S 918 352 ∧ gI S 811 0 = gI S 925 352 ∧ (gI S 811 0 = 0 ∨ gI S 811 0 = 1) ∧ ∀ i, i < 7 → xJ S 351 i = xJ S 365 i
def wsz (w : Nat) : Nat := [4, 6, 6, 6, 2, 5, 4, 2, 5, 5, 5, 3, 3, 4, 3, 11, 7, 7].getD w 0
def wat (w : Nat) : Nat := [1, 6, 13, 20, 27, 30, 36, 41, 44, 50, 56, 62, 66, 70, 75, 79, 91, 99].getD w 0
def Wd (S : gk_S) : Prop := ∀ w, w < 18 → xI S 361 w = nI (wat w) ∧ xI S 362 w = nI (wsz w)
def Ls (S : gk_S) : Prop := ∃ (R : Nat → Nat) (L : Nat → AL), (∀ k, k < 5 → Ba (R k)) ∧ (∀ j k, j < 5 → k < 5 → R j = R k → j = k) ∧ (∀ k, k < 4 → xP S 5 k = some (R k)) ∧ gP S 810 0 = some (R 4) ∧
  (∀ k, k < 4 → WL (L k) ∧ CL S (R k) (L k) ∧ ML S k (L k)) ∧ (∀ k, k < 4 → gI S 403 (R k) = (if k = 0 then xI S 360 16 else 0) ∧ ∀ i, i < (L k).n → gI S 304 (ru (R k) i) = if k = 0 then xI S 360 i else 0)
/-- a connection: 0 proto, 1 src, 2 dst, 3 sport, 4 dport, 5 phase, 6 answered, 7 whose fin, 8 due -/
def CC (S : gk_S) (q : Nat) (c : Nat → Nat) : Prop := gI S 0 q = nI (c 0) ∧ gJ S 1 q = lN (c 1) ∧ gJ S 2 q = lN (c 2) ∧ gJ S 3 q = lN (c 3) ∧ gJ S 4 q = lN (c 4) ∧ gI S 5 q = nI (c 5) ∧ gI S 6 q = nI (c 6) ∧ gI S 7 q = nI (c 7) ∧ gI S 8 q = nI (c 8)
def MC (S : gk_S) (i : Nat) (c : Nat → Nat) : Prop := ∀ j, j < 9 → xI S 369 (9 * i + j) = nI (c j)
def WC (c : Nat → Nat) : Prop := c 0 < 256 ∧ c 1 < 4294967296 ∧ c 2 < 4294967296 ∧ c 3 < 65536 ∧ c 4 < 65536 ∧ c 6 < 2 ∧ c 7 < 3 ∧ c 8 < 2000000000 ∧ (c 0 ≠ 6 → c 5 = 0 ∧ c 7 = 0) ∧ (c 0 = 6 → 1 ≤ c 5 ∧ c 5 ≤ 7 ∧ (c 5 ≤ 3 → c 7 = 0) ∧ (c 5 = 4 ∨ c 5 = 5 → c 7 = 1 ∨ c 7 = 2) ∧ (c 5 = 1 → c 6 = 0))
def Tb (S : gk_S) : Prop := ∃ (Q : Nat → Nat) (C : Nat → Nat → Nat) (n mx tm : Nat), n ≤ mx ∧ 1 ≤ mx ∧ mx ≤ 64 ∧ tm ≤ 1000000000 ∧ gI S 601 279 = nI n ∧ gI S 932 352 = nI n ∧ gI S 602 279 = nI mx ∧ gI S 933 352 = nI mx ∧ gI S 603 279 = nI tm ∧ gI S 934 352 = nI tm ∧ gI S 604 279 = gI S 936 352 ∧ gI S 605 279 = gI S 937 352 ∧ gI S 813 0 = gI S 935 352 ∧
  (∀ i, i < 64 → xP S 280 i = some (Q i) ∧ 281 ≤ Q i ∧ Q i < 345) ∧ (∀ i j, i < 64 → j < 64 → Q i = Q j → i = j) ∧ ∀ i, i < n → WC (C i) ∧ CC S (Q i) (C i) ∧ MC S i (C i)
/-- a packet: 0 in, 1 proto, 2 src, 3 dst, 4 sport, 5 dport, 6 flags -/
def WP (p : Nat → Nat) : Prop := p 0 ≤ 3 ∧ p 1 ≤ 255 ∧ p 2 ≤ 4294967295 ∧ p 3 ≤ 4294967295 ∧ p 4 ≤ 65535 ∧ p 5 ≤ 65535 ∧ p 6 ≤ 63
def Lp (S : gk_S) : Prop := ∃ p : Nat → Nat, WP p ∧ (∀ f, f < 6 → xJ S 346 f = lN (p f)) ∧ gI S 201 345 = nI (p 6) ∧ ∀ f, f < 7 → xI S 370 f = nI (p f)
/-- the search's memory: all of it is of earlier turns -/
def Se (S : gk_S) (t : Nat) : Prop := ∃ u, u ≤ t ∧ gJ S 508 257 = lN u ∧ ∀ i, i < 1024 → ∃ v, v < 1099511627776 * (u + 1) ∧ xJ S 278 i = lN v
def Inv (S : gk_S) (t : Nat) : Prop := Sh S ∧ Tp S ∧ Ot S ∧ Fnd S ∧ Wd S ∧ Ls S ∧ Tb S ∧ Lp S ∧ Se S t
/-! what of it stands in another heap -/
section CON
variable {S T : gk_S}
theorem Tp_c (h : Tp S) (e1 : gI T 101 1 = gI S 101 1) (e2 : gI T 902 352 = gI S 902 352) (e3 : xI T 353 = xI S 353) (e4 : xI T 2 = xI S 2) : Tp T := by
  unfold Tp
  rw [e1, e2, e3, e4]
  exact h
theorem Ot_c (h : Ot S) (e1 : gI T 101 3 = gI S 101 3) (e2 : gI T 921 352 = gI S 921 352) (e3 : xI T 363 = xI S 363) (e4 : xI T 4 = xI S 4) : Ot T := by
  unfold Ot
  rw [e1, e2, e3, e4]
  exact h
theorem Fnd_c (h : Fnd S) (e1 : gI T 812 0 = gI S 812 0) (e2 : gI T 918 352 = gI S 918 352) (e3 : gI T 811 0 = gI S 811 0) (e4 : gI T 925 352 = gI S 925 352) (e5 : xJ T 351 = xJ S 351) (e6 : xJ T 365 = xJ S 365) : Fnd T := by
  unfold Fnd
  rw [e1, e2, e3, e4, e5, e6]
  exact h
theorem Wd_c (h : Wd S) (e1 : xI T 361 = xI S 361) (e2 : xI T 362 = xI S 362) : Wd T := by
  unfold Wd
  rw [e1, e2]
  exact h
/-- what of the heap a rule of the class rests on -/
def sCR (S T : gk_S) (u : Nat) : Prop := gI T 303 u = gI S 303 u ∧ gI T 302 u = gI S 302 u ∧ xJ T (u + 1) = xJ S (u + 1) ∧ xJ T (u + 2) = xJ S (u + 2)
theorem CR_c {u : Nat} {ρ : AR} (h : CR S u ρ) (e : sCR S T u) : CR T u ρ := by
  unfold CR
  rw [e.1, e.2.1, e.2.2.1, e.2.2.2]
  exact h
theorem CL_c {r : Nat} {L : AL} (h : CL S r L) (e1 : gI T 401 r = gI S 401 r) (e2 : gI T 402 r = gI S 402 r) (e : ∀ i, i < L.n → sCR S T (ru r i)) : CL T r L := ⟨e1.trans h.1, e2.trans h.2.1, fun i hi => CR_c (h.2.2 i hi) (e i hi)⟩
def sML (S T : gk_S) : Prop := xI T 354 = xI S 354 ∧ xI T 355 = xI S 355 ∧ xI T 356 = xI S 356 ∧ xI T 357 = xI S 357 ∧ xJ T 358 = xJ S 358 ∧ xJ T 359 = xJ S 359
theorem MR_c {j : Nat} {ρ : AR} (h : MR S j ρ) (e : sML S T) : MR T j ρ := by
  unfold MR
  rw [e.2.2.1, e.2.2.2.1, e.2.2.2.2.1, e.2.2.2.2.2]
  exact h
theorem ML_c {k : Nat} {L : AL} (h : ML S k L) (e : sML S T) : ML T k L := by
  refine ⟨?_, ?_, fun i hi => MR_c (h.2.2 i hi) e⟩
  · rw [e.2.1]; exact h.1
  · rw [e.1]; exact h.2.1
theorem Ls_c (h : Ls S) (e1 : ∀ r, Ba r → gI T 401 r = gI S 401 r ∧ gI T 402 r = gI S 402 r ∧ gI T 403 r = gI S 403 r ∧ ∀ i, i < 16 → gI T 304 (ru r i) = gI S 304 (ru r i) ∧ sCR S T (ru r i)) (e2 : sML S T) (e3 : xI T 360 = xI S 360) (e4 : xP T 5 = xP S 5) (e5 : gP T 810 0 = gP S 810 0) : Ls T := by
  obtain ⟨R, L, h1, h2, h3, h4, h5, h6⟩ := h
  refine ⟨R, L, h1, h2, fun k hk => by rw [e4]; exact h3 k hk, e5.trans h4, fun k hk => ?_, fun k hk => ?_⟩
  · obtain ⟨w, c, m⟩ := h5 k hk
    have b := e1 (R k) (h1 k (by omega))
    exact ⟨w, CL_c c b.1 b.2.1 (fun i hi => (b.2.2.2 i (by have := w.1; omega)).2), ML_c m e2⟩
  · have b := e1 (R k) (h1 k (by omega))
    have w := (h5 k hk).1.1
    rw [e3]
    exact ⟨b.2.2.1.trans (h6 k hk).1, fun i hi => (b.2.2.2 i (by omega)).1.trans ((h6 k hk).2 i hi)⟩
def sCC (S T : gk_S) (q : Nat) : Prop := gI T 0 q = gI S 0 q ∧ gJ T 1 q = gJ S 1 q ∧ gJ T 2 q = gJ S 2 q ∧ gJ T 3 q = gJ S 3 q ∧ gJ T 4 q = gJ S 4 q ∧ gI T 5 q = gI S 5 q ∧ gI T 6 q = gI S 6 q ∧ gI T 7 q = gI S 7 q ∧ gI T 8 q = gI S 8 q
theorem CC_c {q : Nat} {c : Nat → Nat} (h : CC S q c) (e : sCC S T q) : CC T q c := by
  obtain ⟨e0, e1, e2, e3, e4, e5, e6, e7, e8⟩ := e
  unfold CC
  rw [e0, e1, e2, e3, e4, e5, e6, e7, e8]
  exact h
theorem Tb_c (h : Tb S) (e0 : ∀ q, sCC S T q) (e1 : ∀ f, 601 ≤ f → f ≤ 605 → gI T f 279 = gI S f 279) (e2 : ∀ f, 932 ≤ f → f ≤ 937 → gI T f 352 = gI S f 352) (e3 : gI T 813 0 = gI S 813 0) (e4 : xP T 280 = xP S 280) (e5 : xI T 369 = xI S 369) : Tb T := by
  obtain ⟨Q, C, n, mx, tm, g1, g2, g3, g4, h1, h2, h3, h4, h5, h6, h7, h8, h9, p1, p2, p3⟩ := h
  refine ⟨Q, C, n, mx, tm, g1, g2, g3, g4, (e1 _ (by omega) (by omega)).trans h1, (e2 _ (by omega) (by omega)).trans h2, (e1 _ (by omega) (by omega)).trans h3, (e2 _ (by omega) (by omega)).trans h4, (e1 _ (by omega) (by omega)).trans h5, (e2 _ (by omega) (by omega)).trans h6, ?_, ?_, ?_, fun i hi => by rw [e4]; exact p1 i hi, p2, fun i hi => ⟨(p3 i hi).1, CC_c (p3 i hi).2.1 (e0 _), fun j hj => by rw [e5]; exact (p3 i hi).2.2 j hj⟩⟩
  · rw [e1 _ (by omega) (by omega), e2 _ (by omega) (by omega)]; exact h7
  · rw [e1 _ (by omega) (by omega), e2 _ (by omega) (by omega)]; exact h8
  · rw [e3, e2 _ (by omega) (by omega)]; exact h9
theorem Lp_c (h : Lp S) (e1 : xJ T 346 = xJ S 346) (e2 : gI T 201 345 = gI S 201 345) (e3 : xI T 370 = xI S 370) : Lp T := by
  unfold Lp
  rw [e1, e2, e3]
  exact h
theorem Se_c {t : Nat} (h : Se S t) (e1 : gJ T 508 257 = gJ S 508 257) (e2 : xJ T 278 = xJ S 278) : Se T t := by
  unfold Se
  rw [e1, e2]
  exact h
theorem Se_m {t t' : Nat} (h : Se S t) (e : t ≤ t') : Se S t' := by
  obtain ⟨u, h1, h2⟩ := h
  exact ⟨u, by omega, h2⟩
theorem Inv_m {t t' : Nat} (h : Inv S t) (e : t ≤ t') : Inv S t' := ⟨h.1, h.2.1, h.2.2.1, h.2.2.2.1, h.2.2.2.2.1, h.2.2.2.2.2.1, h.2.2.2.2.2.2.1, h.2.2.2.2.2.2.2.1, Se_m h.2.2.2.2.2.2.2.2 e⟩
end CON
/-- the rows of rules lie apart -/
theorem Ba_lt {r : Nat} (h : Ba r) : 6 ≤ r ∧ r ≤ 206 := by obtain ⟨k, hk, rfl⟩ := h; omega
theorem ru_lt {r i : Nat} (h : Ba r) (hi : i < 16) : 8 ≤ ru r i ∧ ru r i + 2 ≤ 255 := by have := Ba_lt h; unfold ru; omega
theorem Inv_thr {S : gk_S} {t : Nat} (h : Inv S t) (v : Int32) : Inv (sI S 900 352 v) t := h
theorem Inv_cS {S : gk_S} {t : Nat} (h : Inv S t) : Inv (cS S) t := h
theorem xJ_lit {S : gk_S} {a : Nat} {v : Nat → Int64} (ha : 256 ≤ a) {r i : Nat} (h : Ba r) (hi : i < 16) : sCR S (rJ S a v) (ru r i) := by
  have := ru_lt h hi
  refine ⟨rfl, rfl, ?_, ?_⟩ <;> rw [xJ_rJ, if_neg (by omega)]
theorem Inv_out {S : gk_S} {t : Nat} (h : Inv S t) (v : Int64) : Inv (wJ S 372 0 v) t := by
  obtain ⟨h0, h1, h2, h3, h4, h5, h6, h7, h8⟩ := h
  exact ⟨h0, h1, h2, h3, h4, Ls_c h5 (fun r hr => ⟨rfl, rfl, rfl, fun i hi => ⟨rfl, xJ_lit (by omega) hr hi⟩⟩) ⟨rfl, rfl, rfl, rfl, rfl, rfl⟩ rfl rfl rfl, h6, h7, h8⟩
