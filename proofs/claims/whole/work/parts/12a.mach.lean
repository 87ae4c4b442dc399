/-! reading a list: the machine. A state: what is awaited, where, parts seen, part, first value, list -/
abbrev AS : Type := Nat × Nat × Nat × Nat × Nat × AL
abbrev AS.w (A : AS) : Nat := A.1
abbrev AS.o (A : AS) : Nat := A.2.1
abbrev AS.n (A : AS) : Nat := A.2.2.1
abbrev AS.t (A : AS) : Nat := A.2.2.2.1
abbrev AS.f (A : AS) : Nat := A.2.2.2.2.1
abbrev AS.L (A : AS) : AL := A.2.2.2.2.2
abbrev AS.c (A : AS) : AR := A.L.r A.L.n
def upR (L : AL) (ρ : AR) : AL := (L.n, L.p, fun j => if j = L.n then ρ else L.r j)
def wR (a : Nat) : AR := (a, 15, fun _ => 0, tp)
def sRg (ρ : AR) (f lo hi : Nat) : AR := (ρ.a, ρ.s, fun j => if j = f then lo else ρ.lo j, fun j => if j = f then hi else ρ.hi j)
def sSt (ρ : AR) (s : Nat) : AR := (ρ.a, s, ρ.lo, ρ.hi)
def pn (w : Nat) : Nat := [6, 17, 1].getD (w - 11) 0
def isV (t k : Nat) : Prop := k = if t = 2 ∨ t = 3 then 3 else 2
def tRule (k w e : Nat) (A : AS) : Nat ⊕ AS := if k = 0 then .inr (0, e, A.n, A.t, A.f, A.L) else if w < 3 then (if A.L.n < 16 then .inr (5, e, 0, A.t, A.f, upR A.L (wR w)) else .inl 4) else .inl 2
def tPart (k v w e : Nat) (A : AS) : Nat ⊕ AS := if k = 4 ∧ v = 59 then .inr (4, e, A.n, A.t, A.f, (A.L.n + 1, A.L.p, A.L.r)) else if 4 ≤ w ∧ w < 11 then (if Nat.testBit A.n (w - 4) = true then .inl 4 else if w = 10 then .inr (10, e, A.n + 2 ^ (w - 4), 6, A.f, upR A.L (sSt A.c 0)) else .inr (6, e, A.n + 2 ^ (w - 4), w - 4, A.f, A.L)) else .inl 2
def tVal (k v w e : Nat) (A : AS) : Nat ⊕ AS := if A.t = 1 ∧ k = 1 then (if 11 ≤ w ∧ w < 14 then .inr (5, e, A.n, A.t, A.f, upR A.L (sRg A.c 1 (pn w) (pn w))) else .inl 2) else if k = (if A.t = 2 ∨ A.t = 3 then 3 else 2) then (if v ≤ tp A.t then .inr (7, e, A.n, A.t, v, upR A.L (sRg A.c A.t v v)) else .inl 3) else .inl 2
def tLast (k v e : Nat) (A : AS) : Nat ⊕ AS := if k = (if A.t = 2 ∨ A.t = 3 then 3 else 2) then (if v < A.f ∨ tp A.t < v then .inl 3 else .inr (5, e, A.n, A.t, A.f, upR A.L (sRg A.c A.t A.f v))) else .inl 2
def bLo (x v : Nat) : Nat := x / 2 ^ (32 - v) * 2 ^ (32 - v)
def bHi (x v : Nat) : Nat := x / 2 ^ (32 - v) * 2 ^ (32 - v) + (2 ^ (32 - v) - 1)
def tBits (k v e : Nat) (A : AS) : Nat ⊕ AS := if k = 2 then (if v ≤ 32 then .inr (5, e, A.n, A.t, A.f, upR A.L (sRg A.c A.t (bLo A.f v) (bHi A.f v))) else .inl 3) else .inl 2
def tState (w e : Nat) (A : AS) : Nat ⊕ AS := if 14 ≤ w ∧ w < 18 then .inr (11, e, A.n, A.t, A.f, upR A.L (sSt A.c (A.c.s ||| 2 ^ (w - 14)))) else .inl 2
def go (x e : Nat) (A : AS) : Nat ⊕ AS := .inr (x, e, A.n, A.t, A.f, A.L)
def tak (k v w e : Nat) (A : AS) : Nat ⊕ AS :=
  if A.w = 1 then (if w = 3 then go 2 e A else tRule k w e A)
  else if A.w = 2 then (if w < 3 then .inr (3, e, A.n, A.t, A.f, (A.L.n, w, A.L.r)) else .inl 2)
  else if A.w = 3 then (if k = 4 ∧ v = 59 then go 4 e A else .inl 2)
  else if A.w = 4 then tRule k w e A
  else if A.w = 6 then tVal k v w e A
  else if A.w = 7 then (if k = 4 ∧ v = 45 then go 8 e A else if k = 4 ∧ v = 47 ∧ (A.t = 2 ∨ A.t = 3) then go 9 e A else tPart k v w e A)
  else if A.w = 8 then tLast k v e A
  else if A.w = 9 then tBits k v e A
  else if A.w = 10 then tState w e A
  else if A.w = 11 then (if k = 4 ∧ v = 44 then go 10 e A else tPart k v w e A)
  else tPart k v w e A
def tkA (b : Nat → Nat) (t : Nat × Nat × Nat × Nat) (A : AS) : Nat ⊕ AS := if t.1 = 5 then .inl 1 else if t.1 = 6 then .inl 4 else tak t.1 t.2.1 (wk b t) t.2.2.2 A
def WR0 (ρ : AR) : Prop := ρ.a < 3 ∧ ρ.s < 16 ∧ ∀ f, f < 6 → ρ.lo f ≤ ρ.hi f ∧ ρ.hi f ≤ tp f
def WA (m : Nat) (A : AS) : Prop := A.o ≤ m ∧ A.w ≤ 11 ∧ A.L.n ≤ 16 ∧ A.L.p < 3 ∧ (∀ i, i < A.L.n → WR (A.L.r i)) ∧ (5 ≤ A.w → A.L.n < 16 ∧ A.n < 128 ∧ WR0 A.c ∧ (A.w ≠ 10 → 1 ≤ A.c.s)) ∧ (6 ≤ A.w → A.w ≤ 9 → A.t < 6) ∧ (7 ≤ A.w → A.w ≤ 9 → A.f ≤ tp A.t) ∧ (A.w = 9 → A.t = 2 ∨ A.t = 3)
theorem up_lt (L : AL) (ρ : AR) {i : Nat} (h : i < L.n) : (upR L ρ).r i = L.r i := if_neg (by omega)
theorem up_eq (L : AL) (ρ : AR) : (upR L ρ).r L.n = ρ := if_pos rfl
theorem WR_of {ρ : AR} (h : WR0 ρ) (hs : 1 ≤ ρ.s) : WR ρ := ⟨h.1, h.2.1, fun f hf => ⟨(h.2.2 f hf).1, (h.2.2 f hf).2, hs⟩⟩
theorem WR0_g {ρ : AR} (h : WR0 ρ) {f lo hi : Nat} (h1 : lo ≤ hi) (h2 : hi ≤ tp f) : WR0 (sRg ρ f lo hi) := by
  refine ⟨h.1, h.2.1, fun j hj => ?_⟩
  show (if j = f then lo else ρ.lo j) ≤ (if j = f then hi else ρ.hi j) ∧ (if j = f then hi else ρ.hi j) ≤ tp j
  by_cases c : j = f
  · rw [if_pos c, if_pos c, c]; exact ⟨h1, h2⟩
  · rw [if_neg c, if_neg c]; exact h.2.2 j hj
theorem WR0_w {a : Nat} (h : a < 3) : WR0 (wR a) := ⟨h, by show 15 < 16; omega, fun f _ => ⟨Nat.zero_le _, Nat.le_refl _⟩⟩
/-- bits of prefixes -/
theorem b_le {x v : Nat} (hx : x ≤ 4294967295) (hv : v ≤ 32) : bLo x v ≤ bHi x v ∧ bHi x v ≤ 4294967295 := by
  unfold bLo bHi
  refine ⟨by omega, ?_⟩
  have hp : 0 < 2 ^ (32 - v) := Nat.two_pow_pos _
  have h32 : 2 ^ (32 - v) * 2 ^ v = 4294967296 := by rw [← Nat.pow_add, show 32 - v + v = 32 by omega]
  have hd : x / 2 ^ (32 - v) < 2 ^ v := by
    rw [Nat.div_lt_iff_lt_mul hp, Nat.mul_comm, h32]
    omega
  have : (x / 2 ^ (32 - v) + 1) * 2 ^ (32 - v) ≤ 2 ^ v * 2 ^ (32 - v) := Nat.mul_le_mul_right _ hd
  rw [Nat.mul_comm (2 ^ v), h32, Nat.add_mul] at this
  omega
theorem bit_add : ∀ n, n < 128 → ∀ j, j < 7 → Nat.testBit n j = false → n + 2 ^ j < 128 ∧ (n ||| 2 ^ j) = n + 2 ^ j := by decide +kernel
theorem or_lt16 : ∀ s, s < 16 → ∀ j, j < 4 → (s ||| 2 ^ j) < 16 ∧ 1 ≤ (s ||| 2 ^ j) := by decide +kernel
section TKW
variable {m : Nat} {A A' : AS} {k v w e : Nat}
/-- what is read stays well -/
theorem part_W (hA : WA m A) (he : e ≤ m) (h5 : 5 ≤ A.w) (h10 : A.w ≠ 10) (r : tPart k v w e A = .inr A') : WA m A' ∧ A'.o = e ∧ A'.w ≠ 0 ∧ (k = 4 ∨ w < 18) := by
  obtain ⟨a0, a1, a2, a3, a4, a5, a6, a7, a8⟩ := hA
  obtain ⟨c1, c2, c3, c4⟩ := a5 h5
  unfold tPart at r
  by_cases q : k = 4 ∧ v = 59
  · rw [if_pos q] at r
    injection r with r
    subst r
    refine ⟨⟨he, by show 4 ≤ 11; omega, by show A.L.n + 1 ≤ 16; omega, a3, fun i hi => ?_, fun q => absurd q (show ¬ 5 ≤ 4 by decide), fun q => absurd q (show ¬ 6 ≤ 4 by decide), fun q => absurd q (show ¬ 7 ≤ 4 by decide), fun q => absurd q (show ¬ 4 = 9 by decide)⟩, rfl, by show 4 ≠ 0; decide, Or.inl q.1⟩
    by_cases hi2 : i < A.L.n
    · exact a4 i hi2
    · have hi' : i < A.L.n + 1 := hi
      have : i = A.L.n := by omega
      subst this
      exact WR_of c3 (c4 h10)
  · rw [if_neg q] at r
    by_cases q2 : 4 ≤ w ∧ w < 11
    · rw [if_pos q2] at r
      cases tb : Nat.testBit A.n (w - 4)
      · rw [tb, if_neg (by decide)] at r
        have ba := bit_add A.n c2 (w - 4) (by omega) tb
        by_cases q3 : w = 10
        · rw [if_pos q3] at r
          injection r with r
          subst r
          refine ⟨⟨he, by show 10 ≤ 11; omega, a2, a3, fun i hi => ?_, fun _ => ⟨c1, ba.1, ?_, fun q => absurd rfl q⟩, fun _ q => absurd q (show ¬ 10 ≤ 9 by decide), fun _ q => absurd q (show ¬ 10 ≤ 9 by decide), fun q => absurd q (show ¬ 10 = 9 by decide)⟩, rfl, by show 10 ≠ 0; decide, Or.inr (by omega)⟩
          · have hi' : i < A.L.n := hi
            show WR ((upR A.L (sSt A.c 0)).r i)
            rw [up_lt _ _ hi']
            exact a4 i hi'
          · show WR0 ((upR A.L (sSt A.c 0)).r A.L.n)
            rw [up_eq]
            exact ⟨c3.1, by show 0 < 16; omega, c3.2.2⟩
        · rw [if_neg q3] at r
          injection r with r
          subst r
          exact ⟨⟨he, by show 6 ≤ 11; omega, a2, a3, a4, fun _ => ⟨c1, ba.1, c3, fun _ => c4 h10⟩, fun _ _ => by show w - 4 < 6; omega, fun q => absurd q (show ¬ 7 ≤ 6 by decide), fun q => absurd q (show ¬ 6 = 9 by decide)⟩, rfl, by show 6 ≠ 0; decide, Or.inr (by omega)⟩
      · rw [tb, if_pos rfl] at r
        exact absurd r (by simp)
    · rw [if_neg q2] at r
      exact absurd r (by simp)
theorem rule_W (hA : WA m A) (he : e ≤ m) (r : tRule k w e A = .inr A') : WA m A' ∧ A'.o = e ∧ (A'.w = 0 ∨ w < 18) := by
  obtain ⟨a0, a1, a2, a3, a4, a5, a6, a7, a8⟩ := hA
  unfold tRule at r
  by_cases q : k = 0
  · rw [if_pos q] at r
    injection r with r
    subst r
    exact ⟨⟨he, by show 0 ≤ 11; omega, a2, a3, a4, fun q => absurd q (show ¬ 5 ≤ 0 by decide), fun q => absurd q (show ¬ 6 ≤ 0 by decide), fun q => absurd q (show ¬ 7 ≤ 0 by decide), fun q => absurd q (show ¬ 0 = 9 by decide)⟩, rfl, Or.inl rfl⟩
  · rw [if_neg q] at r
    by_cases q2 : w < 3
    · rw [if_pos q2] at r
      by_cases q3 : A.L.n < 16
      · rw [if_pos q3] at r
        injection r with r
        subst r
        refine ⟨⟨he, by show 5 ≤ 11; omega, a2, a3, fun i hi => ?_, fun _ => ⟨q3, by show 0 < 128; omega, ?_, fun _ => ?_⟩, fun q => absurd q (show ¬ 6 ≤ 5 by decide), fun q => absurd q (show ¬ 7 ≤ 5 by decide), fun q => absurd q (show ¬ 5 = 9 by decide)⟩, rfl, Or.inr (by omega)⟩
        · have hi' : i < A.L.n := hi
          show WR ((upR A.L (wR w)).r i)
          rw [up_lt _ _ hi']
          exact a4 i hi'
        · show WR0 ((upR A.L (wR w)).r A.L.n)
          rw [up_eq]
          exact WR0_w q2
        · show 1 ≤ ((upR A.L (wR w)).r A.L.n).s
          rw [up_eq]
          show 1 ≤ 15
          omega
      · rw [if_neg q3] at r
        exact absurd r (by simp)
    · rw [if_neg q2] at r
      exact absurd r (by simp)
theorem WA_c (hA : WA m A) (he : e ≤ m) (h5 : 5 ≤ A.w) {x f : Nat} {ρ : AR} (hρ : WR0 ρ) (hs : 1 ≤ ρ.s) (hx : x = 5 ∨ x = 11 ∨ (x = 7 ∧ A.t < 6 ∧ f ≤ tp A.t)) : WA m (x, e, A.n, A.t, f, upR A.L ρ) := by
  obtain ⟨a0, a1, a2, a3, a4, a5, a6, a7, a8⟩ := hA
  obtain ⟨c1, c2, c3, c4⟩ := a5 h5
  refine ⟨he, ?_, a2, a3, fun i hi => ?_, fun _ => ⟨c1, c2, ?_, fun _ => ?_⟩, ?_, ?_, ?_⟩
  · show x ≤ 11
    omega
  · have hi' : i < A.L.n := hi
    show WR ((upR A.L ρ).r i)
    rw [up_lt _ _ hi']
    exact a4 i hi'
  · show WR0 ((upR A.L ρ).r A.L.n)
    rw [up_eq]
    exact hρ
  · show 1 ≤ ((upR A.L ρ).r A.L.n).s
    rw [up_eq]
    exact hs
  · show 6 ≤ x → x ≤ 9 → A.t < 6
    intro q1 q2
    omega
  · show 7 ≤ x → x ≤ 9 → f ≤ tp A.t
    intro q1 q2
    omega
  · show x = 9 → _
    intro q
    omega
theorem go_W {x : Nat} (hA : WA m A) (he : e ≤ m) (hx : (x = 2 ∨ x = 4) ∨ (x = 8 ∧ A.w = 7) ∨ (x = 9 ∧ A.w = 7 ∧ (A.t = 2 ∨ A.t = 3)) ∨ (x = 10 ∧ A.w = 11)) : WA m (x, e, A.n, A.t, A.f, A.L) := by
  obtain ⟨a0, a1, a2, a3, a4, a5, a6, a7, a8⟩ := hA
  refine ⟨he, by show x ≤ 11; omega, a2, a3, a4, ?_, ?_, ?_, ?_⟩
  · show 5 ≤ x → _
    intro q
    obtain ⟨c1, c2, c3, c4⟩ := a5 (by omega)
    exact ⟨c1, c2, c3, fun _ => c4 (by omega)⟩
  · show 6 ≤ x → x ≤ 9 → A.t < 6
    intro q1 q2
    exact a6 (by omega) (by omega)
  · show 7 ≤ x → x ≤ 9 → A.f ≤ tp A.t
    intro q1 q2
    exact a7 (by omega) (by omega)
  · show x = 9 → A.t = 2 ∨ A.t = 3
    intro q
    omega
end TKW
