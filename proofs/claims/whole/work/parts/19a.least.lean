/-! least: what is left, as masks and as lists -/
def wo (m d : Nat) : Nat := bm (fun i => Nat.testBit m i && !(Nat.testBit (2 ^ d) i)) 16
theorem wo_lt (m d : Nat) : wo m d < 65536 := bm_lt _ 16
theorem wo_t {m d i : Nat} (hi : i < 16) : Nat.testBit (wo m d) i = (Nat.testBit m i && !(decide (d = i))) := by
  unfold wo
  rw [bm_t, decide_eq_true hi, Bool.true_and, Nat.testBit_two_pow]
theorem wo_in {m d i : Nat} (h : Nat.testBit (wo m d) i = true) : Nat.testBit m i = true ∧ d ≠ i := by
  unfold wo at h
  rw [bm_t, Nat.testBit_two_pow] at h
  simp only [Bool.and_eq_true, Bool.not_eq_true', decide_eq_false_iff_not] at h
  exact h.2
def Rk (m : Nat) : Nat → Nat
  | 0 => 0
  | i + 1 => Rk m i + if Nat.testBit m i = true then 1 else 0
theorem Rk_1 {m i : Nat} (h : Nat.testBit m i = true) : Rk m (i + 1) = Rk m i + 1 := by rw [Rk, if_pos h]
theorem Rk_0 {m i : Nat} (h : Nat.testBit m i = false) : Rk m (i + 1) = Rk m i := by rw [Rk, if_neg (by rw [h]; decide)]; rfl
theorem Rk_le (m : Nat) : ∀ d i, Rk m i ≤ Rk m (i + d) ∧ Rk m (i + d) ≤ Rk m i + d := by
  intro d
  induction d with
  | zero => intro i; exact ⟨Nat.le_refl _, Nat.le_refl _⟩
  | succ d ih =>
    intro i
    obtain ⟨h1, h2⟩ := ih i
    rw [← Nat.add_assoc]
    cases q : Nat.testBit m (i + d)
    · rw [Rk_0 q]; omega
    · rw [Rk_1 q]; omega
theorem Rk_mono {m i j : Nat} (h : i ≤ j) : Rk m i ≤ Rk m j := by
  have := (Rk_le m (j - i) i).1
  rwa [show i + (j - i) = j by omega] at this
theorem Rk_n (m j : Nat) : Rk m j ≤ j := by
  have := (Rk_le m j 0).2
  rw [Nat.zero_add] at this
  have e : Rk m 0 = 0 := rfl
  omega
theorem Rk_all {m : Nat} : ∀ j, (∀ i, i < j → Nat.testBit m i = true) → Rk m j = j := by
  intro j
  induction j with
  | zero => intro _; rfl
  | succ j ih => intro h; rw [Rk_1 (h j (Nat.lt_succ_self j)), ih (fun i hi => h i (by omega))]
theorem Rk_lt {m i n : Nat} (h : Nat.testBit m i = true) (hi : i < n) : Rk m i < Rk m n := by
  have := Rk_mono (m := m) (show i + 1 ≤ n by omega)
  rw [Rk_1 h] at this
  omega
theorem Rk_sur {m k : Nat} : ∀ n, k < Rk m n → ∃ i, i < n ∧ Nat.testBit m i = true ∧ Rk m i = k := by
  intro n
  induction n with
  | zero => intro h; exact absurd h (Nat.not_lt_zero k)
  | succ n ih =>
    intro h
    by_cases q : k < Rk m n
    · obtain ⟨i, h1, h2, h3⟩ := ih q
      exact ⟨i, by omega, h2, h3⟩
    · cases b : Nat.testBit m n
      · rw [Rk_0 b] at h; exact absurd h q
      · rw [Rk_1 b] at h
        exact ⟨n, Nat.lt_succ_self n, b, by omega⟩
theorem Rk_wo {m d : Nat} (h : Nat.testBit m d = true) : ∀ j, j ≤ 16 → (j ≤ d → Rk (wo m d) j = Rk m j) ∧ (d < j → Rk (wo m d) j + 1 = Rk m j) := by
  intro j
  induction j with
  | zero => intro _; exact ⟨fun _ => rfl, fun q => absurd q (Nat.not_lt_zero d)⟩
  | succ j ih =>
    intro hj
    obtain ⟨i1, i2⟩ := ih (by omega)
    have e := wo_t (m := m) (d := d) (i := j) (by omega)
    by_cases c : d = j
    · subst c
      rw [decide_eq_true rfl, h] at e
      refine ⟨fun q => by omega, fun _ => ?_⟩
      rw [Rk_0 e, Rk_1 h, i1 (Nat.le_refl _)]
    · rw [decide_eq_false c] at e
      cases b : Nat.testBit m j
      · rw [b] at e
        rw [Rk_0 e, Rk_0 b]
        exact ⟨fun q => i1 (by omega), fun q => i2 (by omega)⟩
      · rw [b] at e
        rw [Rk_1 e, Rk_1 b]
        exact ⟨fun q => by rw [i1 (by omega)], fun q => by have := i2 (by omega); omega⟩
/-- M is what the mask m leaves of L -/
def Cmp (L : AL) (m : Nat) (M : AL) : Prop := M.p = L.p ∧ M.n = Rk m L.n ∧ ∀ i, i < L.n → Nat.testBit m i = true → M.r (Rk m i) = L.r i
def drp (M : AL) (d : Nat) : AL := (M.n - 1, M.p, fun j => if j < d then M.r j else M.r (j + 1))
section CMP
variable {L M : AL} {m d : Nat} {x : Nat → Nat}
theorem Cmp_n (c : Cmp L m M) : M.n ≤ L.n := by rw [c.2.1]; exact Rk_n m L.n
theorem Cmp_W (w : WL L) (c : Cmp L m M) : WL M := by
  refine ⟨by have := Cmp_n c; have := w.1; omega, by rw [c.1]; exact w.2.1, fun k hk => ?_⟩
  rw [c.2.1] at hk
  obtain ⟨i, h1, h2, h3⟩ := Rk_sur _ hk
  rw [← h3, c.2.2 i h1 h2]
  exact w.2.2 i h1
theorem Cmp_fa (hn : L.n ≤ 16) (hm : ∀ i, Nat.testBit m i = true → i < L.n) (c : Cmp L m M) : ∀ d i, i + d = 16 → fa M.r (αr M) (lowm M.n) L.p 0 x (16 - Rk m i) (Rk m i) = fa L.r (αr L) m L.p 0 x d i := by
  intro d
  induction d with
  | zero =>
    intro i h
    rw [fa]
    refine fa_none _ _ (fun j j1 j2 q => ?_)
    rw [lowm_t, Bool.and_eq_true] at q
    have := of_decide_eq_true q.1
    rw [c.2.1] at this
    have := Rk_mono (m := m) (show L.n ≤ i by omega)
    omega
  | succ d ih =>
    intro i h
    rw [fa]
    cases b : Nat.testBit m i
    · rw [Bool.false_and, if_neg (by decide), ← ih (i + 1) (by omega), Rk_0 b]
    · have hi := hm i b
      have l1 := Rk_lt b hi
      have l2 := Rk_n m i
      have e := c.2.2 i hi b
      rw [show 16 - Rk m i = (16 - (Rk m i + 1)) + 1 by omega, fa, lowm_t, decide_eq_true (by rw [c.2.1]; exact l1), e, ← ih (i + 1) (by omega), Rk_1 b]
      show (if _ then (M.r (Rk m i)).a else _) = if _ then (L.r i).a else _
      rw [e]
theorem Cmp_acf (hn : L.n ≤ 16) (hm : ∀ i, Nat.testBit m i = true → i < L.n) (c : Cmp L m M) : acf M.r (αr M) (lowm M.n) M.p 0 x = acf L.r (αr L) m L.p 0 x := by
  rw [c.1]
  exact Cmp_fa hn hm c 16 0 rfl
theorem Cmp_0 : Cmp L (lowm L.n) L := by
  have a : ∀ i, i ≤ L.n → Rk (lowm L.n) i = i := fun i hi => Rk_all i (fun j hj => by rw [lowm_t]; exact decide_eq_true (by omega))
  exact ⟨rfl, (a _ (Nat.le_refl _)).symm, fun i hi _ => by rw [a i (by omega)]⟩
theorem Cmp_wo (hn : L.n ≤ 16) (hd : d < L.n) (ha : ∀ i, i ≤ d → Nat.testBit m i = true) (c : Cmp L m M) : d < M.n ∧ Cmp L (wo m d) (drp M d) := by
  have hb := ha d (Nat.le_refl _)
  have e1 := Rk_all (m := m) (d + 1) (fun i hi => ha i (by omega))
  have e2 := Rk_mono (m := m) (show d + 1 ≤ L.n by omega)
  have w := Rk_wo hb
  refine ⟨by rw [c.2.1]; omega, c.1, ?_, fun i hi q => ?_⟩
  · show M.n - 1 = _
    have := (w L.n hn).2 hd
    rw [c.2.1]
    omega
  · obtain ⟨q1, q2⟩ := wo_in q
    show (if Rk (wo m d) i < d then M.r (Rk (wo m d) i) else M.r (Rk (wo m d) i + 1)) = _
    by_cases lt : i < d
    · have e3 := (w i (by omega)).1 (by omega)
      have e4 := Rk_all (m := m) i (fun j hj => ha j (by omega))
      rw [e3, if_pos (by omega)]
      exact c.2.2 i hi q1
    · have e3 := (w i (by omega)).2 (by omega)
      have e4 := Rk_mono (m := m) (show d + 1 ≤ i by omega)
      rw [if_neg (by omega), e3]
      exact c.2.2 i hi q1
end CMP
/-- what is tried: without the d-th -/
def CQ (L : AL) (m d : Nat) : (Nat → Nat) → Prop := CD L.r L.r (αr L) (αr L) 0 m L.p (wo m d) L.p
def NDr (L : AL) : Nat → Nat → Nat → Prop
  | 0, m, r => r = m
  | d + 1, m, r => (NDf 0 (CQ L m d) ∧ NDr L d (wo m d) r) ∨ ((∃ y, Lsf 0 (CQ L m d) y) ∧ NDr L d m r)
theorem NDr_u {L : AL} : ∀ d m r r', NDr L d m r → NDr L d m r' → r = r' := by
  intro d
  induction d with
  | zero => intro m r r' h h'; exact h.trans h'.symm
  | succ d ih =>
    intro m r r' h h'
    rcases h with ⟨a, b⟩ | ⟨⟨y, a⟩, b⟩ <;> rcases h' with ⟨a', b'⟩ | ⟨⟨y', a'⟩, b'⟩
    · exact ih _ _ _ b b'
    · exact absurd a'.2.1 (a y' a'.1)
    · exact absurd a.2.1 (a' y a.1)
    · exact ih _ _ _ b b'
theorem NDr_in {L : AL} {n : Nat} : ∀ d m r, NDr L d m r → m < 65536 → (∀ i, Nat.testBit m i = true → i < n) → r < 65536 ∧ ∀ i, Nat.testBit r i = true → i < n := by
  intro d
  induction d with
  | zero => intro m r h h1 h2; rw [show r = m from h]; exact ⟨h1, h2⟩
  | succ d ih =>
    intro m r h h1 h2
    rcases h with ⟨a, b⟩ | ⟨⟨y, a⟩, b⟩
    · exact ih _ _ b (wo_lt _ _) (fun i q => h2 i (wo_in q).1)
    · exact ih _ _ b h1 h2
def dwn (d : Nat) : Int32 := if d = 0 then -1 else nI (d - 1)
theorem dwn_s (d : Nat) : dwn (d + 1) = nI d := rfl
theorem dwn_0 : dwn 0 < 0 := by decide
theorem dwn_m {d : Nat} (h : d ≤ 16) : nI d + (-1) = dwn d := by
  have : ∀ d, d < 17 → nI d + (-1) = dwn d := by decide +kernel
  exact this d (by omega)
theorem dwn_m' {d : Nat} (h : d ≤ 16) : nI d - 1 = dwn d := by
  have : ∀ d, d < 17 → nI d - 1 = dwn d := by decide +kernel
  exact this d (by omega)
