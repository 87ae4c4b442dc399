/-! a connection begins -/
def ph0 (pr : Nat) : Nat := if pr = 6 then 1 else 0
def nbg (p : Nat → Nat) (tm : Nat) : Nat → Nat := fun j => [p 1, p 2, p 3, p 4, p 5, ph0 (p 1), 0, 0, tm + lf (p 1) (ph0 (p 1)) 0].getD j 0
theorem WC_nbg {p : Nat → Nat} {tm : Nat} (w : WP p) (ht : tm ≤ 1000000000) : WC (nbg p tm) := by
  obtain ⟨w0, w1, w2, w3, w4, w5, w6⟩ := w
  have l := lf_le (p 1) (ph0 (p 1)) 0
  refine ⟨?_, ?_, ?_, ?_, ?_, ?_, ?_, ?_, ?_, ?_⟩
  · show p 1 < 256; omega
  · show p 2 < 4294967296; omega
  · show p 3 < 4294967296; omega
  · show p 4 < 65536; omega
  · show p 5 < 65536; omega
  · show 0 < 2; omega
  · show 0 < 3; omega
  · show tm + lf (p 1) (ph0 (p 1)) 0 < 2000000000; omega
  · intro e
    have e : p 1 ≠ 6 := e
    show ph0 (p 1) = 0 ∧ 0 = 0
    unfold ph0
    rw [if_neg e]
    exact ⟨rfl, rfl⟩
  · intro e
    have e : p 1 = 6 := e
    show 1 ≤ ph0 (p 1) ∧ ph0 (p 1) ≤ 7 ∧ (ph0 (p 1) ≤ 3 → 0 = 0) ∧ (ph0 (p 1) = 4 ∨ ph0 (p 1) = 5 → 0 = 1 ∨ 0 = 2) ∧ (ph0 (p 1) = 1 → 0 = 0)
    unfold ph0
    rw [if_pos e]
    omega
def bgS (S : gk_S) (q : Nat) (c : Nat → Nat) : gk_S := sI (sI (sI (sJ (sJ (sJ (sJ (sI S 0 q (nI (c 0))) 1 q (lN (c 1))) 2 q (lN (c 2))) 3 q (lN (c 3))) 4 q (lN (c 4))) 5 q (nI (c 5))) 6 q 0) 7 q 0
/-- c is what begins with p -/
def BG (c p : Nat → Nat) (tm : Nat) : Prop := c 0 = p 1 ∧ c 1 = p 2 ∧ c 2 = p 3 ∧ c 3 = p 4 ∧ c 4 = p 5 ∧ c 5 = ph0 (p 1) ∧ c 6 = 0 ∧ c 7 = 0 ∧ c 8 = tm + lf (p 1) (ph0 (p 1)) 0
theorem BG_nbg (p : Nat → Nat) (tm : Nat) : BG (nbg p tm) p tm := ⟨rfl, rfl, rfl, rfl, rfl, rfl, rfl, rfl, rfl⟩
