/-! the class descends -/
def CD (ρ1 ρ2 : Nat → AR) (α1 α2 : Nat → Nat) (c a p b q : Nat) (x : Nat → Nat) : Prop := acf ρ1 α1 a p c x ≠ acf ρ2 α2 b q c x
def kyC (u c h t : Nat) : Nat := u * 1099511627776 + c * 68719476736 + h * 262144 + t
theorem kyC_inj {u c h t c' h' t' : Nat} (h0 : c < 7) (h0' : c' < 7) (h1 : h < 262144) (h2 : t < 262144) (h3 : h' < 262144) (h4 : t' < 262144) (e : kyC u c h t = kyC u c' h' t') : c = c' ∧ h = h' ∧ t = t' := by
  unfold kyC at e
  omega
theorem keyC_eq {u c h t : Nat} (hc : c < 7) (hh : h < 262144) (ht : t < 262144) : ((((lN u <<< ((40 : Int32).toInt64 &&& 63)) ||| ((nI c).toInt64 <<< ((36 : Int32).toInt64 &&& 63))) ||| ((nI h).toInt64 <<< ((18 : Int32).toInt64 &&& 63))) ||| (nI t).toInt64) = lN (kyC u c h t) := by
  rw [nI_l (by omega), nI_l (by omega), nI_l (by omega), show ((40 : Int32).toInt64 &&& 63) = lN 40 from by decide, show ((36 : Int32).toInt64 &&& 63) = lN 36 from by decide, show ((18 : Int32).toInt64 &&& 63) = lN 18 from by decide, l_shl (by omega), l_shl (by omega), l_shl (by omega), l_or, l_or, l_or]
  congr 1
  have e1 : u * 2 ^ 40 ||| c * 2 ^ 36 = u * 2 ^ 40 + c * 2 ^ 36 := by
    rw [Nat.mul_comm u, ← Nat.two_pow_add_eq_or_of_lt (by omega : c * 2 ^ 36 < 2 ^ 40)]
  have e2 : (u * 2 ^ 40 + c * 2 ^ 36) ||| h * 2 ^ 18 = u * 2 ^ 40 + c * 2 ^ 36 + h * 2 ^ 18 := by
    have : u * 2 ^ 40 + c * 2 ^ 36 = 2 ^ 36 * (u * 16 + c) := by omega
    rw [this, ← Nat.two_pow_add_eq_or_of_lt (by omega : h * 2 ^ 18 < 2 ^ 36)]
  have e3 : (u * 2 ^ 40 + c * 2 ^ 36 + h * 2 ^ 18) ||| t = u * 2 ^ 40 + c * 2 ^ 36 + h * 2 ^ 18 + t := by
    have : u * 2 ^ 40 + c * 2 ^ 36 + h * 2 ^ 18 = 2 ^ 18 * (u * 4194304 + c * 262144 + h) := by omega
    rw [this, ← Nat.two_pow_add_eq_or_of_lt (by omega : t < 2 ^ 18)]
  rw [e1, e2, e3]
  unfold kyC
  omega
theorem and1023 (v : Int32) : ∃ z, z < 1024 ∧ v &&& 1023 = nI z := by
  refine ⟨v.toBitVec.toNat % 2 ^ 10, Nat.mod_lt _ (by decide), ?_⟩
  exact pk_and v (m := 1023) 10 (by decide)
/-- the memory at turn u: what is of this turn was in vain -/
def CM (T : gk_S) (ρ1 ρ2 : Nat → AR) (α1 α2 : Nat → Nat) (u : Nat) : Prop := gJ T 508 257 = lN u ∧ (∀ i, i < 1024 → ∃ v, v < 1099511627776 * (u + 1) ∧ xJ T 278 i = lN v) ∧ ∀ i c h t, i < 1024 → c < 7 → h < 262144 → t < 262144 → xJ T 278 i = lN (kyC u c h t) → NDf c (CD ρ1 ρ2 α1 α2 c (h % 65536) (h / 65536) (t % 65536) (t / 65536))
def FC (S T : gk_S) : Prop := Frm [] [] [] [] [258, 278] [] S T
theorem FC_refl {S : gk_S} : FC S S := Fr_refl
theorem FC_trans {S T U : gk_S} (h : FC S T) (g : FC T U) : FC S U := Fr_trans h g
def DO (ρ1 ρ2 : Nat → AR) (α1 α2 : Nat → Nat) (u c a p b q : Nat) (S : gk_S) (r : Option (Int32 × gk_S)) : Prop := ∃ z T, r = some (bI z, T) ∧ FC S T ∧ CM T ρ1 ρ2 α1 α2 u ∧ (∀ k, k < c → xJ T 258 k = xJ S 258 k) ∧ (z = true → ∃ y, Lsf c (CD ρ1 ρ2 α1 α2 c a p b q) y ∧ ∀ k, c ≤ k → k < 7 → xJ T 258 k = lN (y k)) ∧ (z = false → NDf c (CD ρ1 ρ2 α1 α2 c a p b q))
section DSC
variable {S T : gk_S} {F n1 n2 tw u : Nat} {ρ1 ρ2 : Nat → AR} {α1 α2 : Nat → Nat} {mc : Nat → Nat} {cv : Nat → Nat → Nat}
theorem PR_F (h : PR S ρ1 ρ2 α1 α2 n1 n2 mc cv tw) (f : FC S T) : PR T ρ1 ρ2 α1 α2 n1 n2 mc cv tw := by
  obtain ⟨h1, h2, h3, h4, ⟨h5, h6, h7⟩, h8⟩ := h
  have x : ∀ a, xI T a = xI S a := fun a => f.2.2.2.2.2.2.1 a (by simp)
  refine ⟨fun c hc => ?_, fun c hc => by rw [x]; exact h2 c hc, by rw [x]; exact h3, fun a ha => by rw [x]; exact h4 a ha, ⟨h5, (f.2.2.2.1 506 257 (by simp)).trans h6, h7⟩, h8⟩
  rw [x, x, f.2.2.2.2.2.2.2.1 (260 + c) (by simp; omega)]
  exact h1 c hc
theorem FC_Sh (h : FC S T) (s : Sh S) : Sh T := Fr_Sh h s (by simp) (by simp)
theorem FC_w (h : FC S T) (i : Int32) (v : Int64) : FC S (wJ T 258 i v) := Fr_wJ h (by decide) _ _
theorem CM_w (h : CM T ρ1 ρ2 α1 α2 u) (i : Int32) (v : Int64) : CM (wJ T 258 i v) ρ1 ρ2 α1 α2 u := by
  unfold CM
  rw [rw_ne T 258 i v (show 278 ≠ 258 by decide)]
  exact h
theorem fa_twin {a p c : Nat} {x : Nat → Nat} : ∀ d i, (∀ j, Nat.testBit a j = true → (∀ k v, hd (ρ1 j) k v = hd (ρ2 j) k v) ∧ α1 j = α2 j) → fa ρ1 α1 a p c x d i = fa ρ2 α2 a p c x d i := by
  intro d
  have mtq : ∀ j, (∀ k v, hd (ρ1 j) k v = hd (ρ2 j) k v) → ∀ d c, mtd (ρ1 j) x d c = mtd (ρ2 j) x d c := by
    intro j hj d
    induction d with
    | zero => intro c; rfl
    | succ d ih => intro c; rw [mtd, mtd, hj, ih]
  induction d with
  | zero => intro i _; rfl
  | succ d ih =>
    intro i h
    rw [fa, fa, ih (i + 1) h]
    cases e : Nat.testBit a i
    · rw [Bool.false_and, Bool.false_and, if_neg (by decide), if_neg (by decide)]
    · obtain ⟨h1, h2⟩ := h i e
      have : mt7 (ρ1 i) c x = mt7 (ρ2 i) c x := mtq i h1 _ _
      rw [this, h2]
theorem CD_x {c a p b q : Nat} {x y : Nat → Nat} (h : ∀ k, c ≤ k → k < 7 → x k = y k) : CD ρ1 ρ2 α1 α2 c a p b q x ↔ CD ρ1 ρ2 α1 α2 c a p b q y := by
  unfold CD acf
  rw [fa_x h, fa_x h]
theorem sd_and2 {a p M : Nat} (ha : a < 65536) (hp : p < 4) (hM : M < 65536) : nI (a + 65536 * p) &&& (nI M ||| 196608) = nI ((a &&& M) + 65536 * p) := by
  have lm : a &&& M ≤ a := Nat.and_le_left
  rw [show (196608 : Int32) = nI 196608 from rfl, nI_or, nI_and]
  congr 1
  rw [← sd_or ha, ← sd_or (show a &&& M < 65536 by omega), show M ||| 196608 = M ||| 65536 * 3 from rfl]
  apply Nat.eq_of_testBit_eq
  intro i
  have hx : ∀ y, Nat.testBit (65536 * y) i = (decide (16 ≤ i) && Nat.testBit y (i - 16)) := fun y => by rw [show 65536 = 2 ^ 16 from rfl, Nat.testBit_two_pow_mul]
  simp only [Nat.testBit_or, Nat.testBit_and, hx]
  by_cases c : i < 16
  · rw [decide_eq_false (show ¬ 16 ≤ i by omega)]; simp
  · rw [tb_hi16 ha (by omega), tb_hi16 hM (by omega), decide_eq_true (show 16 ≤ i by omega)]
    have t3 : ∀ p, p < 4 → ∀ j, (Nat.testBit p j && Nat.testBit 3 j) = Nat.testBit p j := by
      intro p hp j
      rw [← Nat.testBit_and]
      congr 1
      have : ∀ p, p < 4 → p &&& 3 = p := by decide
      exact this p hp
    simp [t3 p hp]
theorem k_gt9 (hF : 16400 ≤ F) {c a p b q : Nat} (hc : c < 7) (ha : a < 65536) (hb : b < 65536) (hia : ∀ i, Nat.testBit a i = true → i < n1) (hib : ∀ i, Nat.testBit b i = true → i < n2) (hp : p < 3) (hq : q < 3) (g : gk_S → Nat → Int32 → Int32 → Int32 → Option (Int32 × gk_S)) (hg : ∀ S a' b', Sh S → PR S ρ1 ρ2 α1 α2 n1 n2 mc cv tw → CM S ρ1 ρ2 α1 α2 u → a' < 65536 → b' < 65536 → (∀ i, Nat.testBit a' i = true → i < n1) → (∀ i, Nat.testBit b' i = true → i < n2) → DO ρ1 ρ2 α1 α2 u (c + 1) a' p b' q S (g S 257 (nI (c + 1)) (nI (a' + 65536 * p)) (nI (b' + 65536 * q)))) : ∀ d k fu (S : gk_S) (la lb : Int32), k + d = mc c → d < fu → Sh S → PR S ρ1 ρ2 α1 α2 n1 n2 mc cv tw → CM S ρ1 ρ2 α1 α2 u → (∀ a1 b1, a1 < 65536 → b1 < 65536 → la = nI (a1 + 65536 * p) → lb = nI (b1 + 65536 * q) → NDf (c + 1) (CD ρ1 ρ2 α1 α2 (c + 1) a1 p b1 q)) → (∀ x, V7 c x → (k < mc c → x c < cv c k) → ¬ CD ρ1 ρ2 α1 α2 c a p b q x) → DO ρ1 ρ2 α1 α2 u c a p b q S (f_X7_goThrough_9 F g fu 257 (nI c) (nI (a + 65536 * p)) (nI (b + 65536 * q)) la lb (nI k) S) := by
  intro d
  induction d with
  | zero =>
    intro k fu S la lb h1 h2 hs pr cm hl nb
    obtain ⟨fu, rfl⟩ : ∃ z, fu = z + 1 := ⟨fu - 1, by omega⟩
    obtain ⟨m1, m2, m3, m4, m5⟩ := pr.1 c hc
    have am : aI S 275 (nI c) = nI (mc c) := by unfold aI; rw [nI_clamp (by omega)]; exact m3
    rw [f_X7_goThrough_9, z_i257 hs, qk_true, z_p503_257 hs, qP_some', z_i275 hs, qk_true, z_l275 hs, inb_n hc (by omega), qk_true, qv_eq, am, if_pos (nI_le (by omega) (by omega))]
    exact ⟨false, S, rfl, FC_refl, cm, fun _ _ => rfl, fun e => absurd e (by decide), fun _ x vx dx => nb x vx (fun z => by omega) dx⟩
  | succ d ih =>
    intro k fu S la lb h1 h2 hs pr cm hl nb
    obtain ⟨fu, rfl⟩ : ∃ z, fu = z + 1 := ⟨fu - 1, by omega⟩
    obtain ⟨m1, m2, m3, m4, m5⟩ := pr.1 c hc
    have hk : k < mc c := by omega
    obtain ⟨v1, v2, v3, ⟨M, v4, v5, v6⟩, v7⟩ := m5 k hk
    have am : aI S 275 (nI c) = nI (mc c) := by unfold aI; rw [nI_clamp (by omega)]; exact m3
    obtain ⟨zc1, zc2, zc3, zc4, zc5, zc6⟩ := z_cut hs hc
    have ap1 : aP S 259 (nI c) = some (260 + c) := by unfold aP; rw [nI_clamp (by omega)]; exact zc1
    have ap2 : aP S 267 (nI c) = some (268 + c) := by unfold aP; rw [nI_clamp (by omega)]; exact zc2
    have aM : aI S (268 + c) (nI k) = nI M := by unfold aI; rw [nI_clamp (by omega)]; exact v5
    have aC : aJ S (260 + c) (nI k) = lN (cv c k) := by unfold aJ; rw [nI_clamp (by omega)]; exact v1
    have M1 : nI M &&& 65535 = nI (M % 65536) := by
      rw [show (65535 : Int32) = nI 65535 from rfl, nI_and]
      congr 1
      exact Nat.and_two_pow_sub_one_eq_mod M 16
    have M2 : ((nI M).toUInt32 >>> ((16 : Int32).toUInt32 &&& Int32.toUInt32 31)).toInt32 = nI (M / 65536) := ushr_n (n := M) (k := 16) (by omega) (by omega)
    obtain ⟨a1, ha1⟩ : ∃ a1, a1 = a &&& M % 65536 := ⟨_, rfl⟩
    obtain ⟨b1, hb1⟩ : ∃ b1, b1 = b &&& M / 65536 := ⟨_, rfl⟩
    have la1 : a1 < 65536 := by have : a &&& M % 65536 ≤ a := Nat.and_le_left; omega
    have lb1 : b1 < 65536 := by have : b &&& M / 65536 ≤ b := Nat.and_le_left; omega
    have ta1 : ∀ i, i < 16 → Nat.testBit a1 i = (Nat.testBit a i && hd (ρ1 i) c (cv c k)) := by
      intro i hi
      rw [ha1, Nat.testBit_and, show 65536 = 2 ^ 16 from rfl, Nat.testBit_mod_two_pow, decide_eq_true hi, Bool.true_and, (v6 i hi).1]
      cases e : Nat.testBit a i
      · rfl
      · rw [decide_eq_true (hia i e)]; rfl
    have tb1 : ∀ i, i < 16 → Nat.testBit b1 i = (Nat.testBit b i && hd (ρ2 i) c (cv c k)) := by
      intro i hi
      rw [hb1, Nat.testBit_and, show 65536 = 2 ^ 16 from rfl, Nat.testBit_div_two_pow, Nat.add_comm, (v6 i hi).2]
      cases e : Nat.testBit b i
      · rfl
      · rw [decide_eq_true (hib i e)]; rfl
    have x1 : nI (a + 65536 * p) &&& (nI (M % 65536) ||| 196608) = nI (a1 + 65536 * p) := by rw [sd_and2 ha (by omega) (by omega), ha1]
    have x2 : nI (b + 65536 * q) &&& (nI (M / 65536) ||| 196608) = nI (b1 + 65536 * q) := by rw [sd_and2 hb (by omega) (by omega), hb1]
    -- a block
    have blk : ∀ x, V7 c x → cv c k ≤ x c → (k + 1 < mc c → x c < cv c (k + 1)) → (CD ρ1 ρ2 α1 α2 c a p b q x ↔ CD ρ1 ρ2 α1 α2 (c + 1) a1 p b1 q x) := by
      intro x vx g1 g2
      obtain ⟨w1, w2⟩ := v7 (x c) g1 (vx c (Nat.le_refl _) hc) (fun j j1 j2 => by
        have s1 := (m5 j j1).2.2.1
        by_cases e : j = k + 1
        · rw [e] at j1 ⊢; exact g2 j1
        · have := s1 (k + 1) (by omega)
          have := g2 (by omega)
          omega)
      unfold CD
      rw [act_red hc (a' := a1) (fun i hi => by
        rw [ta1 i hi]
        cases e : Nat.testBit a i
        · rfl
        · rw [w1 i (hia i e)]), act_red hc (a' := b1) (fun i hi => by
        rw [tb1 i hi]
        cases e : Nat.testBit b i
        · rfl
        · rw [w2 i (hib i e)])]
    have nxt : NDf (c + 1) (CD ρ1 ρ2 α1 α2 (c + 1) a1 p b1 q) → ∀ x, V7 c x → (k + 1 < mc c → x c < cv c (k + 1)) → ¬ CD ρ1 ρ2 α1 α2 c a p b q x := by
      intro nd x vx g2 dx
      by_cases e : x c < cv c k
      · exact nb x vx (fun _ => e) dx
      · exact nd x (fun j j1 j2 => vx j (by omega) j2) ((blk x vx (by omega) g2).mp dx)
    rw [f_X7_goThrough_9, z_i257 hs, qk_true, z_p503_257 hs, qP_some', z_i275 hs, qk_true, z_l275 hs, inb_n hc (by omega), qk_true, qv_eq, am, if_neg (nI_ge (by omega) (by omega)), if_neg (show ¬ (65 : Int32) ≤ nI k from nI_ge (b := 65) (by omega) (by omega)), z_p502_257 hs, qP_some', z_i267 hs, qk_true, z_l267 hs, inb_n hc (by omega), qk_true, ap2, qP_some', zc5, qk_true, zc6, inb_n (show k < 65 by omega) (by omega), qk_true, qv_eq, aM, M1, x1, qv_eq, qP_some', z_i267 hs, qk_true, z_l267 hs, inb_n hc (by omega), qk_true, ap2, qP_some', zc5, qk_true, zc6, inb_n (show k < 65 by omega) (by omega), qk_true, qv_eq, aM, qv_eq, M2, x2, qv_eq, nI_1]
    have go : DO ρ1 ρ2 α1 α2 u c a p b q S (f_X7_goThrough_82 F g (f_X7_goThrough_9 F g fu) 257 (nI c) (nI (a + 65536 * p)) (nI (b + 65536 * q)) (nI k) (nI (a1 + 65536 * p)) (nI (b1 + 65536 * q)) S) := by
      have hw := Sh_wJ hs 258 (nI c) (lN (cv c k))
      have fw : FC S (wJ S 258 (nI c) (lN (cv c k))) := FC_w FC_refl _ _
      have pw := PR_F pr fw
      have cw := CM_w cm (nI c) (lN (cv c k))
      have xw : xJ (wJ S 258 (nI c) (lN (cv c k))) 258 c = lN (cv c k) := by rw [rw_eq _ _ (by omega), if_pos rfl]
      have xk : ∀ j, j < c → xJ (wJ S 258 (nI c) (lN (cv c k))) 258 j = xJ S 258 j := fun j hj => by rw [rw_eq _ _ (by omega), if_neg (by omega)]
      unfold f_X7_goThrough_82
      rw [z_i257 hs, qk_true, z_p500_257 hs, qP_some', z_p501_257 hs, qP_some', z_i259 hs, qk_true, z_l259 hs, inb_n hc (by omega), qk_true, ap1, qP_some', zc3, qk_true, zc4, inb_n (show k < 65 by omega) (by omega), qk_true, qv_eq, aC, z_i258 hs, qk_true, z_l258 hs, inb_n hc (by omega), qk_true, qv_eq, nI_1]
      generalize wJ S 258 (nI c) (lN (cv c k)) = S1 at hw fw pw cw xw xk
      obtain ⟨z, T1, r1, r2, r3, r4, r5, r6⟩ := hg S1 a1 b1 hw pw cw la1 lb1 (fun i e => by
        have := tb_hi16 la1 (i := i)
        rcases Nat.lt_or_ge i 16 with c1 | c1
        · rw [ta1 i c1, Bool.and_eq_true] at e; exact hia i e.1
        · rw [this c1] at e; exact absurd e (by decide)) (fun i e => by
        have := tb_hi16 lb1 (i := i)
        rcases Nat.lt_or_ge i 16 with c1 | c1
        · rw [tb1 i c1, Bool.and_eq_true] at e; exact hib i e.1
        · rw [this c1] at e; exact absurd e (by decide))
      have ft : FC S T1 := FC_trans fw r2
      have xf : xJ T1 258 c = lN (cv c k) := by rw [r4 c (by omega)]; exact xw
      have xk1 : ∀ j, j < c → xJ T1 258 j = xJ S 258 j := fun j hj => by rw [r4 j (by omega)]; exact xk j hj
      rw [r1, qc_some']
      cases z
      · rw [if_pos (show bI false = 0 from rfl), nI_1]
        obtain ⟨z, T2, p1, p2, p3, p4, p5, p6⟩ := ih (k + 1) fu T1 (nI (a1 + 65536 * p)) (nI (b1 + 65536 * q)) (by omega) (by omega) (FC_Sh r2 hw) (PR_F pw r2) r3 (fun a2 b2 l1 l2 e1 e2 => by
          have q1 := (nI_eq (by omega) (by omega)).mp e1
          have q2 := (nI_eq (by omega) (by omega)).mp e2
          rw [← show a1 = a2 by omega, ← show b1 = b2 by omega]
          exact r6 rfl) (nxt (r6 rfl))
        exact ⟨z, T2, p1, FC_trans ft p2, p3, fun j hj => (p4 j hj).trans (xk1 j hj), p5, p6⟩
      · rw [if_neg (show ¬ bI true = 0 by decide)]
        obtain ⟨y, y1, y2⟩ := r5 rfl
        refine ⟨true, T1, rfl, ft, r3, xk1, fun _ => ⟨fun j => if j = c then cv c k else y j, ?_, fun j j1 j2 => ?_⟩, fun e => absurd e (by decide)⟩
        · have ls : Lsf (c + 1) (CD ρ1 ρ2 α1 α2 (c + 1) a1 p b1 q) (fun j => if j = c then cv c k else y j) := by
            refine Ls_x (fun j j1 j2 => (if_neg (by omega)).symm) (fun e => (CD_x (fun j j1 j2 => ?_)).mp e) y1
            show y j = if j = c then cv c k else y j
            rw [if_neg (by omega)]
          refine LS_step hc v2 (if_pos rfl) (fun x vx dx lx => nb x vx (fun _ => lx) dx) (fun x vx ex => blk x vx (by omega) (fun e => by rw [ex]; exact (m5 (k + 1) e).2.2.1 k (by omega))) ls
        · show xJ T1 258 j = lN (if j = c then cv c k else y j)
          by_cases e : j = c
          · rw [if_pos e, e]; exact xf
          · rw [if_neg e]; exact y2 j (by omega) j2
    by_cases e1 : nI (a1 + 65536 * p) = la
    · rw [if_pos e1]
      by_cases e2 : nI (b1 + 65536 * q) = lb
      · rw [if_pos e2]
        exact ih (k + 1) fu S la lb (by omega) (by omega) hs pr cm hl (nxt (hl a1 b1 la1 lb1 e1.symm e2.symm))
      · rw [if_neg e2]; exact go
    · rw [if_neg e1]; exact go
end DSC
