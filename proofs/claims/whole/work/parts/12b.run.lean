/-! the machine's run -/
section TKR
variable {m : Nat} {A A' : AS} {k v w e : Nat}
theorem pn_le : ∀ w, 11 ≤ w ∧ w < 14 → pn w ≤ tp 1 := by
  intro w h
  have : w = 11 ∨ w = 12 ∨ w = 13 := by omega
  rcases this with rfl | rfl | rfl <;> decide
theorem tp23 {t : Nat} (h : t = 2 ∨ t = 3) : tp t = 4294967295 := by rcases h with rfl | rfl <;> rfl
theorem tak_W (hA : WA m A) (h0 : A.w ≠ 0) (he : e ≤ m) (hw : w < 18 → k = 1) (r : tak k v w e A = .inr A') : WA m A' ∧ A'.o = e ∧ (A'.w = 0 ∨ k ≠ 0) := by
  have hA' := hA
  obtain ⟨a0, a1, a2, a3, a4, a5, a6, a7, a8⟩ := hA'
  have part : 5 ≤ A.w → A.w ≠ 10 → tPart k v w e A = .inr A' → WA m A' ∧ A'.o = e ∧ (A'.w = 0 ∨ k ≠ 0) := by
    intro h5 h10 r
    obtain ⟨p1, p2, p3, p4⟩ := part_W hA he h5 h10 r
    exact ⟨p1, p2, Or.inr (by rcases p4 with q | q; omega; rw [hw q]; decide)⟩
  have rule : tRule k w e A = .inr A' → WA m A' ∧ A'.o = e ∧ (A'.w = 0 ∨ k ≠ 0) := by
    intro r
    obtain ⟨p1, p2, p3⟩ := rule_W hA he r
    exact ⟨p1, p2, p3.imp id (fun q => by rw [hw q]; decide)⟩
  have gow : ∀ {x : Nat}, ((x = 2 ∨ x = 4) ∨ (x = 8 ∧ A.w = 7) ∨ (x = 9 ∧ A.w = 7 ∧ (A.t = 2 ∨ A.t = 3)) ∨ (x = 10 ∧ A.w = 11)) → (w < 18 ∨ k = 4) → go x e A = .inr A' → WA m A' ∧ A'.o = e ∧ (A'.w = 0 ∨ k ≠ 0) := by
    intro x hx hk r
    unfold go at r
    injection r with r
    subst r
    exact ⟨go_W hA he hx, rfl, Or.inr (by rcases hk with q | q; rw [hw q]; decide; omega)⟩
  have bad : ∀ {x : Nat}, (Sum.inl x : Nat ⊕ AS) = .inr A' → WA m A' ∧ A'.o = e ∧ (A'.w = 0 ∨ k ≠ 0) := fun q => absurd q (by simp)
  unfold tak at r
  by_cases q1 : A.w = 1
  · rw [if_pos q1] at r
    by_cases q : w = 3
    · rw [if_pos q] at r; exact gow (Or.inl (Or.inl rfl)) (Or.inl (by omega)) r
    · rw [if_neg q] at r; exact rule r
  rw [if_neg q1] at r
  by_cases q2 : A.w = 2
  · rw [if_pos q2] at r
    by_cases q : w < 3
    · rw [if_pos q] at r
      injection r with r
      subst r
      exact ⟨⟨he, by show 3 ≤ 11; omega, a2, q, a4, fun q => absurd q (show ¬ 5 ≤ 3 by decide), fun q => absurd q (show ¬ 6 ≤ 3 by decide), fun q => absurd q (show ¬ 7 ≤ 3 by decide), fun q => absurd q (show ¬ 3 = 9 by decide)⟩, rfl, Or.inr (by rw [hw (by omega)]; decide)⟩
    · rw [if_neg q] at r; exact bad r
  rw [if_neg q2] at r
  by_cases q3 : A.w = 3
  · rw [if_pos q3] at r
    by_cases q : k = 4 ∧ v = 59
    · rw [if_pos q] at r; exact gow (Or.inl (Or.inr rfl)) (Or.inr q.1) r
    · rw [if_neg q] at r; exact bad r
  rw [if_neg q3] at r
  by_cases q4 : A.w = 4
  · rw [if_pos q4] at r; exact rule r
  rw [if_neg q4] at r
  have h5 : 5 ≤ A.w := by omega
  obtain ⟨c1, c2, c3, c4⟩ := a5 h5
  by_cases q6 : A.w = 6
  · rw [if_pos q6] at r
    have t6 := a6 (by omega) (by omega)
    unfold tVal at r
    by_cases q : A.t = 1 ∧ k = 1
    · rw [if_pos q] at r
      by_cases qq : 11 ≤ w ∧ w < 14
      · rw [if_pos qq] at r
        injection r with r
        subst r
        exact ⟨WA_c hA he h5 (WR0_g c3 (Nat.le_refl _) (pn_le w qq)) (c4 (by omega)) (Or.inl rfl), rfl, Or.inr (by omega)⟩
      · rw [if_neg qq] at r; exact bad r
    · rw [if_neg q] at r
      by_cases qq : k = (if A.t = 2 ∨ A.t = 3 then 3 else 2)
      · rw [if_pos qq] at r
        by_cases qv : v ≤ tp A.t
        · rw [if_pos qv] at r
          injection r with r
          subst r
          exact ⟨WA_c hA he h5 (WR0_g c3 (Nat.le_refl _) qv) (c4 (by omega)) (Or.inr (Or.inr ⟨rfl, t6, qv⟩)), rfl, Or.inr (by rw [qq]; split <;> decide)⟩
        · rw [if_neg qv] at r; exact bad r
      · rw [if_neg qq] at r; exact bad r
  rw [if_neg q6] at r
  by_cases q7 : A.w = 7
  · rw [if_pos q7] at r
    by_cases qa : k = 4 ∧ v = 45
    · rw [if_pos qa] at r; exact gow (Or.inr (Or.inl ⟨rfl, q7⟩)) (Or.inr qa.1) r
    · rw [if_neg qa] at r
      by_cases qb : k = 4 ∧ v = 47 ∧ (A.t = 2 ∨ A.t = 3)
      · rw [if_pos qb] at r; exact gow (Or.inr (Or.inr (Or.inl ⟨rfl, q7, qb.2.2⟩))) (Or.inr qb.1) r
      · rw [if_neg qb] at r; exact part h5 (by omega) r
  rw [if_neg q7] at r
  by_cases q8 : A.w = 8
  · rw [if_pos q8] at r
    unfold tLast at r
    by_cases qq : k = (if A.t = 2 ∨ A.t = 3 then 3 else 2)
    · rw [if_pos qq] at r
      by_cases qv : v < A.f ∨ tp A.t < v
      · rw [if_pos qv] at r; exact bad r
      · rw [if_neg qv] at r
        injection r with r
        subst r
        exact ⟨WA_c hA he h5 (WR0_g c3 (by omega) (by omega)) (c4 (by omega)) (Or.inl rfl), rfl, Or.inr (by rw [qq]; split <;> decide)⟩
    · rw [if_neg qq] at r; exact bad r
  rw [if_neg q8] at r
  by_cases q9 : A.w = 9
  · rw [if_pos q9] at r
    unfold tBits at r
    by_cases qq : k = 2
    · rw [if_pos qq] at r
      by_cases qv : v ≤ 32
      · rw [if_pos qv] at r
        injection r with r
        subst r
        have t23 := tp23 (a8 q9)
        have bb := b_le (x := A.f) (v := v) (by rw [← t23]; exact a7 (by omega) (by omega)) qv
        exact ⟨WA_c hA he h5 (WR0_g c3 bb.1 (by rw [t23]; exact bb.2)) (c4 (by omega)) (Or.inl rfl), rfl, Or.inr (by omega)⟩
      · rw [if_neg qv] at r; exact bad r
    · rw [if_neg qq] at r; exact bad r
  rw [if_neg q9] at r
  by_cases q10 : A.w = 10
  · rw [if_pos q10] at r
    unfold tState at r
    by_cases qq : 14 ≤ w ∧ w < 18
    · rw [if_pos qq] at r
      injection r with r
      subst r
      have o := or_lt16 A.c.s c3.2.1 (w - 14) (by omega)
      exact ⟨WA_c hA he h5 ⟨c3.1, o.1, c3.2.2⟩ o.2 (Or.inr (Or.inl rfl)), rfl, Or.inr (by rw [hw (by omega)]; decide)⟩
    · rw [if_neg qq] at r; exact bad r
  rw [if_neg q10] at r
  by_cases q11 : A.w = 11
  · rw [if_pos q11] at r
    by_cases qa : k = 4 ∧ v = 44
    · rw [if_pos qa] at r; exact gow (Or.inr (Or.inr (Or.inr ⟨rfl, q11⟩))) (Or.inr qa.1) r
    · rw [if_neg qa] at r; exact part h5 (by omega) r
  rw [if_neg q11] at r
  exact part h5 q10 r
end TKR
theorem wk_1 (b : Nat → Nat) (t : Nat × Nat × Nat × Nat) (h : wk b t < 18) : t.1 = 1 := by
  unfold wk at h
  by_cases c : t.1 = 1
  · exact c
  · rw [if_neg c] at h; omega
/-- one step: what is wrong, or the state behind -/
def stA (b : Nat → Nat) (m : Nat) (A : AS) : (Nat × Nat) ⊕ AS := match tkA b (tk b m A.o) A with | .inl κ => .inl (κ, (tk b m A.o).2.2.1) | .inr A' => .inr A'
def rnA (b : Nat → Nat) (m : Nat) : Nat → AS → (Nat × Nat) ⊕ AS
  | 0, A => .inr A
  | d + 1, A => match stA b m A with | .inl f => .inl f | .inr A' => if A'.w = 0 then .inr A' else rnA b m d A'
def RA (b : Nat → Nat) (m : Nat) (A : AS) : (Nat × Nat) ⊕ AS := rnA b m (m + 1 - A.o) A
section RUN
variable {b : Nat → Nat} {m : Nat} {A A' : AS}
theorem stA_W (hA : WA m A) (h0 : A.w ≠ 0) (r : stA b m A = .inr A') : WA m A' ∧ (A'.w = 0 ∨ A.o < A'.o) := by
  have t := tk_ok b hA.1
  unfold stA tkA at r
  generalize tk b m A.o = t0 at r t
  obtain ⟨t1, t2, t3, t4, -⟩ := t
  by_cases c5 : t0.1 = 5
  · rw [if_pos c5] at r; exact absurd r (by simp)
  rw [if_neg c5] at r
  by_cases c6 : t0.1 = 6
  · rw [if_pos c6] at r; exact absurd r (by simp)
  rw [if_neg c6] at r
  cases e : tak t0.1 t0.2.1 (wk b t0) t0.2.2.2 A with
  | inl κ => rw [e] at r; exact absurd r (by simp)
  | inr B =>
    rw [e] at r
    injection r with r
    subst r
    obtain ⟨w1, w2, w3⟩ := tak_W hA h0 (t3 (by omega)).2 (wk_1 b t0) e
    refine ⟨w1, ?_⟩
    rcases w3 with q | q
    · exact Or.inl q
    · exact Or.inr (by rw [w2]; exact (t4 (by omega) (by omega)).1)
theorem rnA_mono : ∀ n, ∀ d A, d ≤ n → WA m A → A.w ≠ 0 → m + 1 - A.o ≤ d → rnA b m d A = rnA b m (m + 1 - A.o) A := by
  intro n
  induction n with
  | zero => intro d A h1 hA _ h2; have := hA.1; omega
  | succ n ih =>
    intro d A h1 hA h0 h2
    have o := hA.1
    obtain ⟨d', rfl⟩ : ∃ q, d = q + 1 := ⟨d - 1, by omega⟩
    rw [show m + 1 - A.o = (m - A.o) + 1 by omega, rnA, rnA]
    cases e : stA b m A with
    | inl f => rfl
    | inr B =>
      obtain ⟨w1, w2⟩ := stA_W hA h0 e
      by_cases q : B.w = 0
      · simp only [if_pos q]
      · have lt := w2.resolve_left q
        have o2 := w1.1
        simp only [if_neg q]
        rw [ih d' B (by omega) w1 q (by omega), ih (m - A.o) B (by omega) w1 q (by omega)]
theorem RA_eq (hA : WA m A) (h0 : A.w ≠ 0) : RA b m A = match stA b m A with | .inl f => .inl f | .inr A' => if A'.w = 0 then .inr A' else RA b m A' := by
  have o := hA.1
  unfold RA
  rw [show m + 1 - A.o = (m - A.o) + 1 by omega, rnA]
  cases e : stA b m A with
  | inl f => rfl
  | inr B =>
    obtain ⟨w1, w2⟩ := stA_W hA h0 e
    by_cases q : B.w = 0
    · simp only [if_pos q]
    · have lt := w2.resolve_left q
      simp only [if_neg q]
      exact rnA_mono (m - A.o) (m - A.o) B (Nat.le_refl _) w1 q (by omega)
theorem RA_f (hA : WA m A) (h0 : A.w ≠ 0) {f : Nat × Nat} (e : stA b m A = .inl f) : RA b m A = .inl f := by rw [RA_eq hA h0, e]
theorem RA_s (hA : WA m A) (h0 : A.w ≠ 0) (e : stA b m A = .inr A') (h : A'.w ≠ 0) : RA b m A = RA b m A' := by rw [RA_eq hA h0, e]; exact if_neg h
theorem RA_0 (hA : WA m A) (h0 : A.w ≠ 0) (e : stA b m A = .inr A') (h : A'.w = 0) : RA b m A = .inr A' := by rw [RA_eq hA h0, e]; exact if_pos h
end RUN
