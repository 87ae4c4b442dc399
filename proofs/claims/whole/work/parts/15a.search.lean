/-! searching: what is sought -/
def hd (ρ : AR) (k v : Nat) : Bool := if k < 6 then decide (ρ.lo k ≤ v ∧ v ≤ ρ.hi k) else Nat.testBit ρ.s v
def mtd (ρ : AR) (x : Nat → Nat) : Nat → Nat → Bool
  | 0, _ => true
  | d + 1, c => hd ρ c (x c) && mtd ρ x d (c + 1)
def mt7 (ρ : AR) (c : Nat) (x : Nat → Nat) : Bool := mtd ρ x (7 - c) c
theorem mt_s {c : Nat} (h : c < 7) (ρ : AR) (x : Nat → Nat) : mt7 ρ c x = (hd ρ c (x c) && mt7 ρ (c + 1) x) := by
  unfold mt7
  rw [show 7 - c = (7 - (c + 1)) + 1 by omega, mtd]
theorem mt_7 (ρ : AR) (x : Nat → Nat) : mt7 ρ 7 x = true := rfl
/-- what the rules of a, from the i-th on, say of x; else p -/
def fa (r : Nat → AR) (α : Nat → Nat) (a p c : Nat) (x : Nat → Nat) : Nat → Nat → Nat
  | 0, _ => p
  | d + 1, i => if (Nat.testBit a i && mt7 (r i) c x) = true then α i else fa r α a p c x d (i + 1)
def acf (r : Nat → AR) (α : Nat → Nat) (a p c : Nat) (x : Nat → Nat) : Nat := fa r α a p c x 16 0
section ACT
variable {r : Nat → AR} {α : Nat → Nat} {c : Nat} {x : Nat → Nat}
theorem fa_c {a a' p c' : Nat} : ∀ d i, (∀ j, i ≤ j → j < i + d → (Nat.testBit a j && mt7 (r j) c x) = (Nat.testBit a' j && mt7 (r j) c' x)) → fa r α a p c x d i = fa r α a' p c' x d i := by
  intro d
  induction d with
  | zero => intro i _; rfl
  | succ d ih =>
    intro i h
    rw [fa, fa, h i (Nat.le_refl _) (by omega), ih (i + 1) (fun j j1 j2 => h j (by omega) (by omega))]
theorem act_red {a a' p : Nat} (hc : c < 7) (h : ∀ i, i < 16 → Nat.testBit a' i = (Nat.testBit a i && hd (r i) c (x c))) : acf r α a p c x = acf r α a' p (c + 1) x := by
  refine fa_c 16 0 (fun j _ j2 => ?_)
  rw [mt_s hc, h j (by omega), Bool.and_assoc]
theorem fa_none {a p : Nat} : ∀ d i, (∀ j, i ≤ j → j < i + d → (Nat.testBit a j && mt7 (r j) c x) = true → α j = p) → fa r α a p c x d i = p := by
  intro d
  induction d with
  | zero => intro i _; rfl
  | succ d ih =>
    intro i h
    rw [fa]
    by_cases q : (Nat.testBit a i && mt7 (r i) c x) = true
    · rw [if_pos q]; exact h i (Nat.le_refl _) (by omega) q
    · rw [if_neg q]; exact ih (i + 1) (fun j j1 j2 => h j (by omega) (by omega))
theorem fa_tail {a a' p : Nat} : ∀ d i, (∀ j, i ≤ j → j < i + d → Nat.testBit a' j = true → Nat.testBit a j = true) → (∀ j, i ≤ j → j < i + d → Nat.testBit a j = true → Nat.testBit a' j = false → α j = p ∧ ∀ k, j < k → k < i + d → Nat.testBit a' k = false) → (∀ j, i ≤ j → j < i + d → Nat.testBit a j = true → Nat.testBit a' j = false → ∀ k, j < k → k < i + d → Nat.testBit a k = true → α k = p) → fa r α a p c x d i = fa r α a' p c x d i := by
  intro d
  induction d with
  | zero => intro i _ _ _; rfl
  | succ d ih =>
    intro i h1 h2 h3
    rw [fa, fa]
    cases ea' : Nat.testBit a' i
    · cases ea : Nat.testBit a i
      · rw [Bool.false_and, if_neg (by decide), if_neg (by decide)]
        exact ih (i + 1) (fun j j1 j2 => h1 j (by omega) (by omega)) (fun j j1 j2 q p => ⟨(h2 j (by omega) (by omega) q p).1, fun k k1 k2 => (h2 j (by omega) (by omega) q p).2 k k1 (by omega)⟩) (fun j j1 j2 q p k k1 k2 => h3 j (by omega) (by omega) q p k k1 (by omega))
      · obtain ⟨e1, e2⟩ := h2 i (Nat.le_refl _) (by omega) ea ea'
        have z : fa r α a' p c x d (i + 1) = p := fa_none d (i + 1) (fun j j1 j2 q => by rw [e2 j (by omega) (by omega), Bool.false_and] at q; exact absurd q (by decide))
        rw [Bool.false_and, if_neg (show ¬ false = true by decide), z, Bool.true_and]
        by_cases q : mt7 (r i) c x = true
        · rw [if_pos q]; exact e1
        · rw [if_neg q]
          refine fa_none d (i + 1) (fun j j1 j2 p => ?_)
          rw [Bool.and_eq_true] at p
          exact h3 i (Nat.le_refl _) (by omega) ea ea' j (by omega) (by omega) p.1
    · rw [h1 i (Nat.le_refl _) (by omega) ea', ih (i + 1) (fun j j1 j2 => h1 j (by omega) (by omega)) (fun j j1 j2 q p => ⟨(h2 j (by omega) (by omega) q p).1, fun k k1 k2 => (h2 j (by omega) (by omega) q p).2 k k1 (by omega)⟩) (fun j j1 j2 q p k k1 k2 => h3 j (by omega) (by omega) q p k k1 (by omega))]
/-- rules at the end that do what the policy does -/
theorem act_tail {a a' p : Nat} (h1 : ∀ j, j < 16 → Nat.testBit a' j = true → Nat.testBit a j = true) (h2 : ∀ j, j < 16 → Nat.testBit a j = true → Nat.testBit a' j = false → α j = p) (h3 : ∀ j k, j < k → k < 16 → Nat.testBit a j = true → Nat.testBit a' j = false → Nat.testBit a' k = false) : acf r α a p c x = acf r α a' p c x := by
  refine fa_tail 16 0 (fun j _ j2 => h1 j (by omega)) (fun j _ j2 q s => ⟨h2 j (by omega) q s, fun k k1 k2 => h3 j k k1 (by omega) q s⟩) (fun j _ j2 q s k k1 k2 qk => h2 k (by omega) qk (h3 j k k1 (by omega) q s))
theorem fa_whole {a a' p w : Nat} (hw : mt7 (r w) c x = true) (ha : Nat.testBit a w = true) : ∀ d i, i ≤ w → w < i + d → (∀ j, i ≤ j → j < w → Nat.testBit a' j = Nat.testBit a j) → (∀ j, w ≤ j → Nat.testBit a' j = false) → fa r α a p c x d i = fa r α a' (α w) c x d i := by
  intro d
  induction d with
  | zero => intro i h1 h2; omega
  | succ d ih =>
    intro i h1 h2 h3 h4
    rw [fa, fa]
    by_cases e : i = w
    · subst e
      rw [ha, hw, h4 i (Nat.le_refl _), Bool.false_and, if_pos (by decide), if_neg (by decide)]
      exact (fa_none d (i + 1) (fun j j1 j2 q => by rw [h4 j (by omega), Bool.false_and] at q; exact absurd q (by decide))).symm
    · rw [h3 i (Nat.le_refl _) (by omega), ih (i + 1) (by omega) (by omega) (fun j j1 j2 => h3 j (by omega) j2) h4]
/-- a rule that matches all that is left is the policy -/
theorem act_whole {a a' p w : Nat} (hw16 : w < 16) (hw : mt7 (r w) c x = true) (ha : Nat.testBit a w = true) (h3 : ∀ j, j < w → Nat.testBit a' j = Nat.testBit a j) (h4 : ∀ j, w ≤ j → Nat.testBit a' j = false) : acf r α a p c x = acf r α a' (α w) c x := fa_whole hw ha 16 0 (Nat.zero_le _) (by omega) (fun j _ j2 => h3 j j2) h4
/-- what is behind a rule that matches all that is left -/
theorem fa_cut {a a' p w : Nat} (hw : mt7 (r w) c x = true) (ha : Nat.testBit a w = true) : ∀ d i, i ≤ w → w < i + d → (∀ j, i ≤ j → j ≤ w → Nat.testBit a' j = Nat.testBit a j) → fa r α a p c x d i = fa r α a' p c x d i := by
  intro d
  induction d with
  | zero => intro i h1 h2; omega
  | succ d ih =>
    intro i h1 h2 h3
    rw [fa, fa, h3 i (Nat.le_refl _) h1]
    by_cases e : i = w
    · subst e
      rw [ha, hw, if_pos (by decide), if_pos (by decide)]
    · rw [ih (i + 1) (by omega) (by omega) (fun j j1 j2 => h3 j (by omega) j2)]
theorem act_cut {a a' p w : Nat} (hw16 : w < 16) (hw : mt7 (r w) c x = true) (ha : Nat.testBit a w = true) (h3 : ∀ j, j ≤ w → Nat.testBit a' j = Nat.testBit a j) : acf r α a p c x = acf r α a' p c x := fa_cut hw ha 16 0 (Nat.zero_le _) (by omega) (fun j _ j2 => h3 j j2)
theorem act_0 {a p : Nat} (h : ∀ j, j < 16 → Nat.testBit a j = false) : acf r α a p c x = p := fa_none 16 0 (fun j _ j2 q => by rw [h j (by omega), Bool.false_and] at q; exact absurd q (by decide))
/-- one of the actions there are -/
theorem fa_in {a p : Nat} {Q : Nat → Prop} (hp : Q p) : ∀ d i, (∀ j, i ≤ j → j < i + d → Nat.testBit a j = true → Q (α j)) → Q (fa r α a p c x d i) := by
  intro d
  induction d with
  | zero => intro i _; exact hp
  | succ d ih =>
    intro i h
    rw [fa]
    by_cases q : (Nat.testBit a i && mt7 (r i) c x) = true
    · rw [if_pos q]
      rw [Bool.and_eq_true] at q
      exact h i (Nat.le_refl _) (by omega) q.1
    · rw [if_neg q]; exact ih (i + 1) (fun j j1 j2 => h j (by omega) (by omega))
theorem fa_w {a p w : Nat} {Q : Nat → Prop} (hw : mt7 (r w) c x = true) (ha : Nat.testBit a w = true) : ∀ d i, i ≤ w → w < i + d → (∀ j, i ≤ j → j < i + d → Nat.testBit a j = true → Q (α j)) → Q (fa r α a p c x d i) := by
  intro d
  induction d with
  | zero => intro i h1 h2; omega
  | succ d ih =>
    intro i h1 h2 h
    rw [fa]
    by_cases q : (Nat.testBit a i && mt7 (r i) c x) = true
    · rw [if_pos q]
      rw [Bool.and_eq_true] at q
      exact h i (Nat.le_refl _) (by omega) q.1
    · rw [if_neg q]
      by_cases e : i = w
      · subst e
        rw [ha, hw] at q
        exact absurd (by decide) q
      · exact ih (i + 1) (by omega) (by omega) (fun j j1 j2 => h j (by omega) (by omega))
end ACT
/-! the first point -/
def V7 (c : Nat) (x : Nat → Nat) : Prop := ∀ k, c ≤ k → k < 7 → x k ≤ tp k
def LT7 (c : Nat) (x y : Nat → Nat) : Prop := ∃ k, c ≤ k ∧ k < 7 ∧ (∀ j, c ≤ j → j < k → x j = y j) ∧ x k < y k
def Lsf (c : Nat) (P : (Nat → Nat) → Prop) (y : Nat → Nat) : Prop := V7 c y ∧ P y ∧ ∀ x, V7 c x → P x → ¬ LT7 c x y
def NDf (c : Nat) (P : (Nat → Nat) → Prop) : Prop := ∀ x, V7 c x → ¬ P x
section LSS
variable {c : Nat} {P Q : (Nat → Nat) → Prop} {x y z : Nat → Nat}
theorem LS_uniq (h : Lsf c P y) (g : Lsf c Q z) (e : ∀ x, V7 c x → (P x ↔ Q x)) : ∀ k, c ≤ k → k < 7 → y k = z k := by
  have key : ∀ d k, k = c + d → k ≤ 7 → ∀ j, c ≤ j → j < k → y j = z j := by
    intro d
    induction d with
    | zero => intro k h1 _ j j1 j2; omega
    | succ d ih =>
      intro k h1 h2 j j1 j2
      have p := ih (c + d) rfl (by omega)
      by_cases q : j < c + d
      · exact p j j1 q
      · have ej : j = c + d := by omega
        subst ej
        rcases Nat.lt_trichotomy (y (c + d)) (z (c + d)) with l | l | l
        · exact absurd ⟨c + d, by omega, by omega, p, l⟩ (g.2.2 y h.1 ((e y h.1).mp h.2.1))
        · exact l
        · exact absurd ⟨c + d, by omega, by omega, fun i i1 i2 => (p i i1 i2).symm, l⟩ (h.2.2 z g.1 ((e z g.1).mpr g.2.1))
  intro k k1 k2
  exact key (7 - c) 7 (by omega) (Nat.le_refl _) k k1 k2
theorem LS_step (hc : c < 7) {v : Nat} (hv : v ≤ tp c) (hy : y c = v) (h1 : ∀ x, V7 c x → P x → ¬ x c < v) (h2 : ∀ x, V7 c x → x c = v → (P x ↔ Q x)) (h3 : Lsf (c + 1) Q y) : Lsf c P y := by
  have V1 : V7 c y := fun k k1 k2 => by
    by_cases e : k = c
    · rw [e, hy]; exact hv
    · exact h3.1 k (by omega) k2
  refine ⟨V1, (h2 y V1 hy).mpr h3.2.1, fun x vx px lt => ?_⟩
  obtain ⟨k, k1, k2, k3, k4⟩ := lt
  by_cases e : k = c
  · subst e; rw [hy] at k4; exact h1 x vx px k4
  · have xc : x c = v := by rw [← hy]; exact k3 c (Nat.le_refl _) (by omega)
    exact h3.2.2 x (fun j j1 j2 => vx j (by omega) j2) ((h2 x vx xc).mp px) ⟨k, by omega, k2, fun j j1 j2 => k3 j (by omega) j2, k4⟩
theorem LS_0 (h : ∀ x, V7 c x → P x) (hy : ∀ k, c ≤ k → k < 7 → y k = 0) : Lsf c P y := by
  have V1 : V7 c y := fun k k1 k2 => by rw [hy k k1 k2]; exact Nat.zero_le _
  refine ⟨V1, h y V1, fun x _ _ lt => ?_⟩
  obtain ⟨k, k1, k2, k3, k4⟩ := lt
  rw [hy k k1 k2] at k4
  omega
theorem LS_c (h : Lsf c P y) (e : ∀ x, V7 c x → (P x ↔ Q x)) : Lsf c Q y := ⟨h.1, (e y h.1).mp h.2.1, fun x vx qx => h.2.2 x vx ((e x vx).mpr qx)⟩
theorem ND_c (h : NDf c P) (e : ∀ x, V7 c x → (P x ↔ Q x)) : NDf c Q := fun x vx q => h x vx ((e x vx).mpr q)
end LSS
