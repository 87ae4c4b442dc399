/-! the text's signs -/
def cD (c : Nat) : Bool := decide (48 ≤ c ∧ c ≤ 57)
def cL (c : Nat) : Bool := decide (97 ≤ c ∧ c ≤ 122)
def cA (c : Nat) : Bool := cD c || cL c
def sp (c : Nat) : Bool := decide (c = 10 ∨ c = 32)
def cS4 (c : Nat) : Bool := decide (c = 59 ∨ c = 44 ∨ c = 45 ∨ c = 47)
def cX (c : Nat) : Bool := cA c || decide (c = 46)
def scn (P : Nat → Bool) : Nat → Nat → Nat
  | 0, p => p
  | d + 1, p => if P p = true then scn P d (p + 1) else p
theorem scn_ge (P : Nat → Bool) : ∀ d p, p ≤ scn P d p ∧ scn P d p ≤ p + d := by
  intro d
  induction d with
  | zero => intro p; exact ⟨Nat.le_refl _, Nat.le_refl _⟩
  | succ d ih =>
    intro p
    rw [scn]
    split
    · have := ih (p + 1); omega
    · omega
theorem scn_in (P : Nat → Bool) : ∀ d p i, p ≤ i → i < scn P d p → P i = true := by
  intro d
  induction d with
  | zero => intro p i h1 h2; rw [scn] at h2; omega
  | succ d ih =>
    intro p i h1 h2
    rw [scn] at h2
    by_cases c : P p = true
    · rw [if_pos c] at h2
      by_cases e : i = p
      · rw [e]; exact c
      · exact ih (p + 1) i (by omega) h2
    · rw [if_neg c] at h2; omega
theorem scn_no (P : Nat → Bool) : ∀ d p, scn P d p < p + d → P (scn P d p) = false := by
  intro d
  induction d with
  | zero => intro p h; rw [scn] at h; omega
  | succ d ih =>
    intro p h
    rw [scn] at h ⊢
    by_cases c : P p = true
    · rw [if_pos c] at h ⊢
      exact ih (p + 1) (by omega)
    · rw [if_neg c]
      exact Bool.eq_false_iff.mpr c
theorem scn_eq (P : Nat → Bool) : ∀ d p e, p ≤ e → e ≤ p + d → (∀ i, p ≤ i → i < e → P i = true) → (e < p + d → P e = false) → scn P d p = e := by
  intro d p e h1 h2 h3 h4
  have g := scn_ge P d p
  rcases Nat.lt_trichotomy (scn P d p) e with h | h | h
  · have a := scn_no P d p (by omega)
    rw [h3 _ g.1 h] at a
    exact absurd a (by decide)
  · exact h
  · have a := scn_in P d p e h1 h
    rw [h4 (by omega)] at a
    exact absurd a (by decide)
/-- are all digits -/
def alD (b : Nat → Nat) : Nat → Nat → Bool
  | 0, _ => true
  | d + 1, p => cD (b p) && alD b d (p + 1)
theorem alD_iff (b : Nat → Nat) : ∀ d p, alD b d p = true ↔ ∀ i, p ≤ i → i < p + d → cD (b i) = true := by
  intro d
  induction d with
  | zero => intro p; exact ⟨fun _ i h1 h2 => by omega, fun _ => rfl⟩
  | succ d ih =>
    intro p
    rw [alD, Bool.and_eq_true, ih]
    constructor
    · intro h i h1 h2
      by_cases e : i = p
      · rw [e]; exact h.1
      · exact h.2 i (by omega) (by omega)
    · intro h
      exact ⟨h p (Nat.le_refl _) (by omega), fun i h1 h2 => h i (by omega) (by omega)⟩
def alL (b : Nat → Nat) : Nat → Nat → Bool
  | 0, _ => true
  | d + 1, p => cL (b p) && alL b d (p + 1)
theorem alL_iff (b : Nat → Nat) : ∀ d p, alL b d p = true ↔ ∀ i, p ≤ i → i < p + d → cL (b i) = true := by
  intro d
  induction d with
  | zero => intro p; exact ⟨fun _ i h1 h2 => by omega, fun _ => rfl⟩
  | succ d ih =>
    intro p
    rw [alL, Bool.and_eq_true, ih]
    constructor
    · intro h i h1 h2
      by_cases e : i = p
      · rw [e]; exact h.1
      · exact h.2 i (by omega) (by omega)
    · intro h
      exact ⟨h p (Nat.le_refl _) (by omega), fun i h1 h2 => h i (by omega) (by omega)⟩
/-- how many are no digits -/
def nod (b : Nat → Nat) : Nat → Nat → Nat
  | 0, _ => 0
  | d + 1, p => (if cD (b p) = true then 0 else 1) + nod b d (p + 1)
theorem nod_0 (b : Nat → Nat) : ∀ d p, nod b d p = 0 ↔ alD b d p = true := by
  intro d
  induction d with
  | zero => intro p; exact ⟨fun _ => rfl, fun _ => rfl⟩
  | succ d ih =>
    intro p
    rw [nod, alD, Bool.and_eq_true, ← ih]
    by_cases c : cD (b p) = true
    · rw [if_pos c]; constructor
      · intro h; exact ⟨c, by omega⟩
      · intro h; omega
    · rw [if_neg c]; constructor
      · intro h; omega
      · intro h; exact absurd h.1 c
theorem nod_le (b : Nat → Nat) : ∀ d p, nod b d p ≤ d := by
  intro d
  induction d with
  | zero => intro p; exact Nat.le_refl _
  | succ d ih =>
    intro p
    have := ih (p + 1)
    rw [nod]
    split <;> omega
theorem cDL (c : Nat) : cL c = true → cD c = false := by
  intro h
  have := of_decide_eq_true h
  exact decide_eq_false (by omega)
theorem nod_d (b : Nat → Nat) : ∀ d p, (∀ i, p ≤ i → i < p + d → cA (b i) = true) → (nod b d p = d ↔ alL b d p = true) := by
  intro d
  induction d with
  | zero => intro p _; exact ⟨fun _ => rfl, fun _ => rfl⟩
  | succ d ih =>
    intro p hA
    have l := nod_le b d (p + 1)
    have a := hA p (Nat.le_refl _) (by omega)
    rw [nod, alL, Bool.and_eq_true, ← ih (p + 1) (fun i h1 h2 => hA i (by omega) (by omega))]
    by_cases c : cD (b p) = true
    · rw [if_pos c]
      constructor
      · intro h; omega
      · intro h; rw [cDL _ h.1] at c; exact absurd c (by decide)
    · rw [if_neg c]
      have cl : cL (b p) = true := by
        unfold cA at a
        rw [Bool.eq_false_iff.mpr c] at a
        exact a
      constructor
      · intro h; exact ⟨cl, by omega⟩
      · intro h; omega
/-- a number's value -/
def nv (b : Nat → Nat) : Nat → Nat → Nat → Nat
  | 0, _, a => a
  | d + 1, p, a => nv b d (p + 1) (a * 10 + b p - 48)
theorem cD_r {c : Nat} (h : cD c = true) : 48 ≤ c ∧ c ≤ 57 := of_decide_eq_true h
theorem nv_lt (b : Nat → Nat) : ∀ d p a k, alD b d p = true → a < 10 ^ k → nv b d p a < 10 ^ (k + d) := by
  intro d
  induction d with
  | zero => intro p a k _ h; exact h
  | succ d ih =>
    intro p a k hD h
    rw [alD, Bool.and_eq_true] at hD
    have c := cD_r hD.1
    rw [nv, show k + (d + 1) = (k + 1) + d by omega]
    refine ih (p + 1) _ (k + 1) hD.2 ?_
    rw [Nat.pow_succ]
    omega
theorem nv_snoc (b : Nat → Nat) : ∀ d p a, nv b (d + 1) p a = nv b d p a * 10 + b (p + d) - 48 := by
  intro d
  induction d with
  | zero => intro p a; rfl
  | succ d ih =>
    intro p a
    rw [nv, ih, nv]
    congr 3
    omega
theorem alD_snoc (b : Nat → Nat) : ∀ d p, alD b (d + 1) p = (alD b d p && cD (b (p + d))) := by
  intro d
  induction d with
  | zero => intro p; simp [alD]
  | succ d ih =>
    intro p
    rw [alD, ih, alD, Bool.and_assoc]
    congr 4
    omega
theorem alL_snoc (b : Nat → Nat) : ∀ d p, alL b (d + 1) p = (alL b d p && cL (b (p + d))) := by
  intro d
  induction d with
  | zero => intro p; simp [alL]
  | succ d ih =>
    intro p
    rw [alL, ih, alL, Bool.and_assoc]
    congr 4
    omega
/-- a group of an address, so far -/
def gg (b : Nat → Nat) (gs k : Nat) : Bool := decide (k ≤ gs + 3) && (alD b (k - gs) gs && decide (nv b (k - gs) gs 0 < 256))
theorem gg_mono (b : Nat → Nat) {gs k : Nat} (h : gs ≤ k) (e : gg b gs (k + 1) = true) : gg b gs k = true := by
  unfold gg at e ⊢
  rw [show k + 1 - gs = (k - gs) + 1 by omega, alD_snoc, nv_snoc] at e
  simp only [Bool.and_eq_true, decide_eq_true_eq] at e ⊢
  obtain ⟨h1, ⟨h2, h3⟩, h4⟩ := e
  have := cD_r h3
  exact ⟨by omega, h2, by omega⟩
/-- an address: from k on, behind gs, with so many groups -/
def adr (b : Nat → Nat) : Nat → Nat → Nat → Nat → Nat → Option Nat
  | 0, k, gs, n, v => if gs < k ∧ gg b gs k = true ∧ n < 4 then (if n + 1 = 4 then some (v * 256 + nv b (k - gs) gs 0) else none) else none
  | d + 1, k, gs, n, v => if b k = 46 then (if gs < k ∧ gg b gs k = true ∧ n < 4 then adr b d (k + 1) (k + 1) (n + 1) (v * 256 + nv b (k - gs) gs 0) else none) else adr b d (k + 1) gs n v
/-- tokens: 0 end, 1 word, 2 number, 3 address, 4 sign, 5 none, 6 beyond -/
def runE (b : Nat → Nat) (m s : Nat) : Nat := scn (fun i => cA (b i)) (m - s) s
def adrE (b : Nat → Nat) (m s : Nat) : Nat := scn (fun i => cX (b i)) (m - s) s
def wsE (b : Nat → Nat) (m p : Nat) : Nat := scn (fun i => sp (b i)) (m - p) p
/-- a token: kind, value, end -/
def tok (b : Nat → Nat) (m s : Nat) : Nat × Nat × Nat :=
  if m ≤ s then (0, 0, s)
  else if cA (b s) = true then
    (if alD b (runE b m s - s) s = true then
      (if runE b m s < m ∧ b (runE b m s) = 46 then (match adr b (adrE b m s - s) s s 0 0 with | some v => (3, v, adrE b m s) | none => (5, 0, adrE b m s))
      else if runE b m s - s ≤ 5 then (2, nv b (runE b m s - s) s 0, runE b m s) else (5, 0, runE b m s))
    else if alL b (runE b m s - s) s = true ∧ runE b m s - s ≤ 11 then (1, 0, runE b m s) else (5, 0, runE b m s))
  else if cS4 (b s) = true then (4, b s, s + 1) else (5, 0, s + 1)
